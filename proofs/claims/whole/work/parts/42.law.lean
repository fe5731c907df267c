/-! BellPlateLaw.law([I)Z -/
abbrev y_Lw_law : MethodName := ⟨"BellPlateLaw", "law", "([I)Z"⟩
theorem k_Lw_law : y_Lw_law.cls ≠ "java/lang/invoke/MethodHandle" ∧ y_Lw_law.cls ≠ "java/lang/invoke/VarHandle" ∧ (parseMethodDescriptor y_Lw_law.desc).map (fun d => d.parameters.length) = some 1 := by decide +kernel
theorem d_Lw_law_0 : decode code 0 = .ok (.new 8, 3) := by decide +kernel
theorem d_Lw_law_3 : decode code 3 = .ok (.dup, 1) := by decide +kernel
theorem d_Lw_law_4 : decode code 4 = .ok (.invokespecial 15, 3) := by decide +kernel
theorem d_Lw_law_7 : decode code 7 = .ok (.astore_n 1, 1) := by decide +kernel
theorem d_Lw_law_8 : decode code 8 = .ok (.new 16, 3) := by decide +kernel
theorem d_Lw_law_11 : decode code 11 = .ok (.dup, 1) := by decide +kernel
theorem d_Lw_law_12 : decode code 12 = .ok (.invokespecial 18, 3) := by decide +kernel
theorem d_Lw_law_15 : decode code 15 = .ok (.astore_n 2, 1) := by decide +kernel
theorem d_Lw_law_16 : decode code 16 = .ok (.iconst 1, 1) := by decide +kernel
theorem d_Lw_law_17 : decode code 17 = .ok (.newarray .long, 2) := by decide +kernel
theorem d_Lw_law_19 : decode code 19 = .ok (.astore_n 3, 1) := by decide +kernel
theorem d_Lw_law_20 : decode code 20 = .ok (.iconst 0, 1) := by decide +kernel
theorem d_Lw_law_21 : decode code 21 = .ok (.istore 4, 2) := by decide +kernel
theorem d_Lw_law_23 : decode code 23 = .ok (.iload 4, 2) := by decide +kernel
theorem d_Lw_law_25 : decode code 25 = .ok (.aload_n 0, 1) := by decide +kernel
theorem d_Lw_law_26 : decode code 26 = .ok (.arraylength, 1) := by decide +kernel
theorem d_Lw_law_27 : decode code 27 = .ok (.bipush 7, 2) := by decide +kernel
theorem d_Lw_law_29 : decode code 29 = .ok (.isub, 1) := by decide +kernel
theorem d_Lw_law_30 : decode code 30 = .ok (.if_icmp .gt 1639, 3) := by decide +kernel
theorem d_Lw_law_33 : decode code 33 = .ok (.aload_n 0, 1) := by decide +kernel
theorem d_Lw_law_34 : decode code 34 = .ok (.iload 4, 2) := by decide +kernel
theorem d_Lw_law_36 : decode code 36 = .ok (.iaload, 1) := by decide +kernel
theorem d_Lw_law_37 : decode code 37 = .ok (.bipush 63, 2) := by decide +kernel
theorem d_Lw_law_39 : decode code 39 = .ok (.iand, 1) := by decide +kernel
theorem d_Lw_law_40 : decode code 40 = .ok (.tableswitch 1623 0 40 #[180, 327, 340, 365, 391, 416, 469, 506, 531, 556, 581, 618, 643, 668, 717, 797, 846, 871, 908, 933, 958, 983, 1008, 1033, 1058, 1071, 1108, 1133, 1158, 1207, 1244, 1309, 1346, 1371, 1408, 1433, 1446, 1471, 1508, 1545, 1598], 180) := by decide +kernel
theorem d_Lw_law_220 : decode code 220 = .ok (.aload_n 1, 1) := by decide +kernel
theorem d_Lw_law_221 : decode code 221 = .ok (.aload_n 0, 1) := by decide +kernel
theorem d_Lw_law_222 : decode code 222 = .ok (.iload 4, 2) := by decide +kernel
theorem d_Lw_law_224 : decode code 224 = .ok (.iconst 1, 1) := by decide +kernel
theorem d_Lw_law_225 : decode code 225 = .ok (.iadd, 1) := by decide +kernel
theorem d_Lw_law_226 : decode code 226 = .ok (.iaload, 1) := by decide +kernel
theorem d_Lw_law_227 : decode code 227 = .ok (.i2l, 1) := by decide +kernel
theorem d_Lw_law_228 : decode code 228 = .ok (.bipush 32, 2) := by decide +kernel
theorem d_Lw_law_230 : decode code 230 = .ok (.lshl, 1) := by decide +kernel
theorem d_Lw_law_231 : decode code 231 = .ok (.aload_n 0, 1) := by decide +kernel
theorem d_Lw_law_232 : decode code 232 = .ok (.iload 4, 2) := by decide +kernel
theorem d_Lw_law_234 : decode code 234 = .ok (.iconst 2, 1) := by decide +kernel
theorem d_Lw_law_235 : decode code 235 = .ok (.iadd, 1) := by decide +kernel
theorem d_Lw_law_236 : decode code 236 = .ok (.iaload, 1) := by decide +kernel
theorem d_Lw_law_237 : decode code 237 = .ok (.i2l, 1) := by decide +kernel
theorem d_Lw_law_238 : decode code 238 = .ok (.ldc2_w 19, 3) := by decide +kernel
theorem d_Lw_law_241 : decode code 241 = .ok (.land, 1) := by decide +kernel
theorem d_Lw_law_242 : decode code 242 = .ok (.lor, 1) := by decide +kernel
theorem d_Lw_law_243 : decode code 243 = .ok (.aload_n 0, 1) := by decide +kernel
theorem d_Lw_law_244 : decode code 244 = .ok (.iload 4, 2) := by decide +kernel
theorem d_Lw_law_246 : decode code 246 = .ok (.iconst 3, 1) := by decide +kernel
theorem d_Lw_law_247 : decode code 247 = .ok (.iadd, 1) := by decide +kernel
theorem d_Lw_law_248 : decode code 248 = .ok (.iaload, 1) := by decide +kernel
theorem d_Lw_law_249 : decode code 249 = .ok (.i2l, 1) := by decide +kernel
theorem d_Lw_law_250 : decode code 250 = .ok (.bipush 32, 2) := by decide +kernel
theorem d_Lw_law_252 : decode code 252 = .ok (.lshl, 1) := by decide +kernel
theorem d_Lw_law_253 : decode code 253 = .ok (.aload_n 0, 1) := by decide +kernel
theorem d_Lw_law_254 : decode code 254 = .ok (.iload 4, 2) := by decide +kernel
theorem d_Lw_law_256 : decode code 256 = .ok (.iconst 4, 1) := by decide +kernel
theorem d_Lw_law_257 : decode code 257 = .ok (.iadd, 1) := by decide +kernel
theorem d_Lw_law_258 : decode code 258 = .ok (.iaload, 1) := by decide +kernel
theorem d_Lw_law_259 : decode code 259 = .ok (.i2l, 1) := by decide +kernel
theorem d_Lw_law_260 : decode code 260 = .ok (.ldc2_w 19, 3) := by decide +kernel
theorem d_Lw_law_263 : decode code 263 = .ok (.land, 1) := by decide +kernel
theorem d_Lw_law_264 : decode code 264 = .ok (.lor, 1) := by decide +kernel
theorem d_Lw_law_265 : decode code 265 = .ok (.aload_n 0, 1) := by decide +kernel
theorem d_Lw_law_266 : decode code 266 = .ok (.iload 4, 2) := by decide +kernel
theorem d_Lw_law_268 : decode code 268 = .ok (.iconst 5, 1) := by decide +kernel
theorem d_Lw_law_269 : decode code 269 = .ok (.iadd, 1) := by decide +kernel
theorem d_Lw_law_270 : decode code 270 = .ok (.iaload, 1) := by decide +kernel
theorem d_Lw_law_271 : decode code 271 = .ok (.i2l, 1) := by decide +kernel
theorem d_Lw_law_272 : decode code 272 = .ok (.bipush 32, 2) := by decide +kernel
theorem d_Lw_law_274 : decode code 274 = .ok (.lshl, 1) := by decide +kernel
theorem d_Lw_law_275 : decode code 275 = .ok (.aload_n 0, 1) := by decide +kernel
theorem d_Lw_law_276 : decode code 276 = .ok (.iload 4, 2) := by decide +kernel
theorem d_Lw_law_278 : decode code 278 = .ok (.bipush 6, 2) := by decide +kernel
theorem d_Lw_law_280 : decode code 280 = .ok (.iadd, 1) := by decide +kernel
theorem d_Lw_law_281 : decode code 281 = .ok (.iaload, 1) := by decide +kernel
theorem d_Lw_law_282 : decode code 282 = .ok (.i2l, 1) := by decide +kernel
theorem d_Lw_law_283 : decode code 283 = .ok (.ldc2_w 19, 3) := by decide +kernel
theorem d_Lw_law_286 : decode code 286 = .ok (.land, 1) := by decide +kernel
theorem d_Lw_law_287 : decode code 287 = .ok (.lor, 1) := by decide +kernel
theorem d_Lw_law_288 : decode code 288 = .ok (.invokevirtual 21, 3) := by decide +kernel
theorem d_Lw_law_291 : decode code 291 = .ok (.aload_n 2, 1) := by decide +kernel
theorem d_Lw_law_292 : decode code 292 = .ok (.aload_n 0, 1) := by decide +kernel
theorem d_Lw_law_293 : decode code 293 = .ok (.iload 4, 2) := by decide +kernel
theorem d_Lw_law_295 : decode code 295 = .ok (.iconst 1, 1) := by decide +kernel
theorem d_Lw_law_296 : decode code 296 = .ok (.iadd, 1) := by decide +kernel
theorem d_Lw_law_297 : decode code 297 = .ok (.iaload, 1) := by decide +kernel
theorem d_Lw_law_298 : decode code 298 = .ok (.i2l, 1) := by decide +kernel
theorem d_Lw_law_299 : decode code 299 = .ok (.bipush 32, 2) := by decide +kernel
theorem d_Lw_law_301 : decode code 301 = .ok (.lshl, 1) := by decide +kernel
theorem d_Lw_law_302 : decode code 302 = .ok (.aload_n 0, 1) := by decide +kernel
theorem d_Lw_law_303 : decode code 303 = .ok (.iload 4, 2) := by decide +kernel
theorem d_Lw_law_305 : decode code 305 = .ok (.iconst 2, 1) := by decide +kernel
theorem d_Lw_law_306 : decode code 306 = .ok (.iadd, 1) := by decide +kernel
theorem d_Lw_law_307 : decode code 307 = .ok (.iaload, 1) := by decide +kernel
theorem d_Lw_law_308 : decode code 308 = .ok (.i2l, 1) := by decide +kernel
theorem d_Lw_law_309 : decode code 309 = .ok (.ldc2_w 19, 3) := by decide +kernel
theorem d_Lw_law_312 : decode code 312 = .ok (.land, 1) := by decide +kernel
theorem d_Lw_law_313 : decode code 313 = .ok (.lor, 1) := by decide +kernel
theorem d_Lw_law_314 : decode code 314 = .ok (.aload_n 0, 1) := by decide +kernel
theorem d_Lw_law_315 : decode code 315 = .ok (.iload 4, 2) := by decide +kernel
theorem d_Lw_law_317 : decode code 317 = .ok (.iconst 3, 1) := by decide +kernel
theorem d_Lw_law_318 : decode code 318 = .ok (.iadd, 1) := by decide +kernel
theorem d_Lw_law_319 : decode code 319 = .ok (.iaload, 1) := by decide +kernel
theorem d_Lw_law_320 : decode code 320 = .ok (.i2l, 1) := by decide +kernel
theorem d_Lw_law_321 : decode code 321 = .ok (.bipush 32, 2) := by decide +kernel
theorem d_Lw_law_323 : decode code 323 = .ok (.lshl, 1) := by decide +kernel
theorem d_Lw_law_324 : decode code 324 = .ok (.aload_n 0, 1) := by decide +kernel
theorem d_Lw_law_325 : decode code 325 = .ok (.iload 4, 2) := by decide +kernel
theorem d_Lw_law_327 : decode code 327 = .ok (.iconst 4, 1) := by decide +kernel
theorem d_Lw_law_328 : decode code 328 = .ok (.iadd, 1) := by decide +kernel
theorem d_Lw_law_329 : decode code 329 = .ok (.iaload, 1) := by decide +kernel
theorem d_Lw_law_330 : decode code 330 = .ok (.i2l, 1) := by decide +kernel
theorem d_Lw_law_331 : decode code 331 = .ok (.ldc2_w 19, 3) := by decide +kernel
theorem d_Lw_law_334 : decode code 334 = .ok (.land, 1) := by decide +kernel
theorem d_Lw_law_335 : decode code 335 = .ok (.lor, 1) := by decide +kernel
theorem d_Lw_law_336 : decode code 336 = .ok (.aload_n 0, 1) := by decide +kernel
theorem d_Lw_law_337 : decode code 337 = .ok (.iload 4, 2) := by decide +kernel
theorem d_Lw_law_339 : decode code 339 = .ok (.iconst 5, 1) := by decide +kernel
theorem d_Lw_law_340 : decode code 340 = .ok (.iadd, 1) := by decide +kernel
theorem d_Lw_law_341 : decode code 341 = .ok (.iaload, 1) := by decide +kernel
theorem d_Lw_law_342 : decode code 342 = .ok (.i2l, 1) := by decide +kernel
theorem d_Lw_law_343 : decode code 343 = .ok (.bipush 32, 2) := by decide +kernel
theorem d_Lw_law_345 : decode code 345 = .ok (.lshl, 1) := by decide +kernel
theorem d_Lw_law_346 : decode code 346 = .ok (.aload_n 0, 1) := by decide +kernel
theorem d_Lw_law_347 : decode code 347 = .ok (.iload 4, 2) := by decide +kernel
theorem d_Lw_law_349 : decode code 349 = .ok (.bipush 6, 2) := by decide +kernel
theorem d_Lw_law_351 : decode code 351 = .ok (.iadd, 1) := by decide +kernel
theorem d_Lw_law_352 : decode code 352 = .ok (.iaload, 1) := by decide +kernel
theorem d_Lw_law_353 : decode code 353 = .ok (.i2l, 1) := by decide +kernel
theorem d_Lw_law_354 : decode code 354 = .ok (.ldc2_w 19, 3) := by decide +kernel
theorem d_Lw_law_357 : decode code 357 = .ok (.land, 1) := by decide +kernel
theorem d_Lw_law_358 : decode code 358 = .ok (.lor, 1) := by decide +kernel
theorem d_Lw_law_359 : decode code 359 = .ok (.invokevirtual 25, 3) := by decide +kernel
theorem d_Lw_law_362 : decode code 362 = .ok (.if_icmp .eq 1301, 3) := by decide +kernel
theorem d_Lw_law_365 : decode code 365 = .ok (.iconst 0, 1) := by decide +kernel
theorem d_Lw_law_366 : decode code 366 = .ok (.ireturn, 1) := by decide +kernel
theorem d_Lw_law_367 : decode code 367 = .ok (.aload_n 1, 1) := by decide +kernel
theorem d_Lw_law_368 : decode code 368 = .ok (.invokevirtual 26, 3) := by decide +kernel
theorem d_Lw_law_371 : decode code 371 = .ok (.aload_n 2, 1) := by decide +kernel
theorem d_Lw_law_372 : decode code 372 = .ok (.invokevirtual 30, 3) := by decide +kernel
theorem d_Lw_law_375 : decode code 375 = .ok (.if_icmp .eq 1288, 3) := by decide +kernel
theorem d_Lw_law_378 : decode code 378 = .ok (.iconst 0, 1) := by decide +kernel
theorem d_Lw_law_379 : decode code 379 = .ok (.ireturn, 1) := by decide +kernel
theorem d_Lw_law_380 : decode code 380 = .ok (.aload_n 1, 1) := by decide +kernel
theorem d_Lw_law_381 : decode code 381 = .ok (.aload_n 0, 1) := by decide +kernel
theorem d_Lw_law_382 : decode code 382 = .ok (.iload 4, 2) := by decide +kernel
theorem d_Lw_law_384 : decode code 384 = .ok (.iconst 1, 1) := by decide +kernel
theorem d_Lw_law_385 : decode code 385 = .ok (.iadd, 1) := by decide +kernel
theorem d_Lw_law_386 : decode code 386 = .ok (.iaload, 1) := by decide +kernel
theorem d_Lw_law_387 : decode code 387 = .ok (.invokevirtual 31, 3) := by decide +kernel
theorem d_Lw_law_390 : decode code 390 = .ok (.aload_n 2, 1) := by decide +kernel
theorem d_Lw_law_391 : decode code 391 = .ok (.aload_n 0, 1) := by decide +kernel
theorem d_Lw_law_392 : decode code 392 = .ok (.iload 4, 2) := by decide +kernel
theorem d_Lw_law_394 : decode code 394 = .ok (.iconst 1, 1) := by decide +kernel
theorem d_Lw_law_395 : decode code 395 = .ok (.iadd, 1) := by decide +kernel
theorem d_Lw_law_396 : decode code 396 = .ok (.iaload, 1) := by decide +kernel
theorem d_Lw_law_397 : decode code 397 = .ok (.invokevirtual 35, 3) := by decide +kernel
theorem d_Lw_law_400 : decode code 400 = .ok (.if_icmp .eq 1263, 3) := by decide +kernel
theorem d_Lw_law_403 : decode code 403 = .ok (.iconst 0, 1) := by decide +kernel
theorem d_Lw_law_404 : decode code 404 = .ok (.ireturn, 1) := by decide +kernel
theorem d_Lw_law_405 : decode code 405 = .ok (.aload_n 1, 1) := by decide +kernel
theorem d_Lw_law_406 : decode code 406 = .ok (.aload_n 0, 1) := by decide +kernel
theorem d_Lw_law_407 : decode code 407 = .ok (.iload 4, 2) := by decide +kernel
theorem d_Lw_law_409 : decode code 409 = .ok (.iconst 1, 1) := by decide +kernel
theorem d_Lw_law_410 : decode code 410 = .ok (.iadd, 1) := by decide +kernel
theorem d_Lw_law_411 : decode code 411 = .ok (.iaload, 1) := by decide +kernel
theorem d_Lw_law_412 : decode code 412 = .ok (.invokevirtual 36, 3) := by decide +kernel
theorem d_Lw_law_415 : decode code 415 = .ok (.aload_n 2, 1) := by decide +kernel
theorem d_Lw_law_416 : decode code 416 = .ok (.aload_n 0, 1) := by decide +kernel
theorem d_Lw_law_417 : decode code 417 = .ok (.iload 4, 2) := by decide +kernel
theorem d_Lw_law_419 : decode code 419 = .ok (.iconst 1, 1) := by decide +kernel
theorem d_Lw_law_420 : decode code 420 = .ok (.iadd, 1) := by decide +kernel
theorem d_Lw_law_421 : decode code 421 = .ok (.iaload, 1) := by decide +kernel
theorem d_Lw_law_422 : decode code 422 = .ok (.invokevirtual 40, 3) := by decide +kernel
theorem d_Lw_law_425 : decode code 425 = .ok (.lcmp, 1) := by decide +kernel
theorem d_Lw_law_426 : decode code 426 = .ok (.ifCond .eq 1237, 3) := by decide +kernel
theorem d_Lw_law_429 : decode code 429 = .ok (.iconst 0, 1) := by decide +kernel
theorem d_Lw_law_430 : decode code 430 = .ok (.ireturn, 1) := by decide +kernel
theorem d_Lw_law_431 : decode code 431 = .ok (.aload_n 1, 1) := by decide +kernel
theorem d_Lw_law_432 : decode code 432 = .ok (.aload_n 0, 1) := by decide +kernel
theorem d_Lw_law_433 : decode code 433 = .ok (.iload 4, 2) := by decide +kernel
theorem d_Lw_law_435 : decode code 435 = .ok (.iconst 1, 1) := by decide +kernel
theorem d_Lw_law_436 : decode code 436 = .ok (.iadd, 1) := by decide +kernel
theorem d_Lw_law_437 : decode code 437 = .ok (.iaload, 1) := by decide +kernel
theorem d_Lw_law_438 : decode code 438 = .ok (.invokevirtual 41, 3) := by decide +kernel
theorem d_Lw_law_441 : decode code 441 = .ok (.aload_n 2, 1) := by decide +kernel
theorem d_Lw_law_442 : decode code 442 = .ok (.aload_n 0, 1) := by decide +kernel
theorem d_Lw_law_443 : decode code 443 = .ok (.iload 4, 2) := by decide +kernel
theorem d_Lw_law_445 : decode code 445 = .ok (.iconst 1, 1) := by decide +kernel
theorem d_Lw_law_446 : decode code 446 = .ok (.iadd, 1) := by decide +kernel
theorem d_Lw_law_447 : decode code 447 = .ok (.iaload, 1) := by decide +kernel
theorem d_Lw_law_448 : decode code 448 = .ok (.invokevirtual 44, 3) := by decide +kernel
theorem d_Lw_law_451 : decode code 451 = .ok (.if_icmp .eq 1212, 3) := by decide +kernel
theorem d_Lw_law_454 : decode code 454 = .ok (.iconst 0, 1) := by decide +kernel
theorem d_Lw_law_455 : decode code 455 = .ok (.ireturn, 1) := by decide +kernel
theorem d_Lw_law_456 : decode code 456 = .ok (.aload_n 1, 1) := by decide +kernel
theorem d_Lw_law_457 : decode code 457 = .ok (.aload_n 0, 1) := by decide +kernel
theorem d_Lw_law_458 : decode code 458 = .ok (.iload 4, 2) := by decide +kernel
theorem d_Lw_law_460 : decode code 460 = .ok (.iconst 1, 1) := by decide +kernel
theorem d_Lw_law_461 : decode code 461 = .ok (.iadd, 1) := by decide +kernel
theorem d_Lw_law_462 : decode code 462 = .ok (.iaload, 1) := by decide +kernel
theorem d_Lw_law_463 : decode code 463 = .ok (.aload_n 0, 1) := by decide +kernel
theorem d_Lw_law_464 : decode code 464 = .ok (.iload 4, 2) := by decide +kernel
theorem d_Lw_law_466 : decode code 466 = .ok (.iconst 2, 1) := by decide +kernel
theorem d_Lw_law_467 : decode code 467 = .ok (.iadd, 1) := by decide +kernel
theorem d_Lw_law_468 : decode code 468 = .ok (.iaload, 1) := by decide +kernel
theorem d_Lw_law_469 : decode code 469 = .ok (.ifCond .eq 7, 3) := by decide +kernel
theorem d_Lw_law_472 : decode code 472 = .ok (.iconst 1, 1) := by decide +kernel
theorem d_Lw_law_473 : decode code 473 = .ok (.goto 4, 3) := by decide +kernel
theorem d_Lw_law_476 : decode code 476 = .ok (.iconst 0, 1) := by decide +kernel
theorem d_Lw_law_477 : decode code 477 = .ok (.invokevirtual 45, 3) := by decide +kernel
theorem d_Lw_law_480 : decode code 480 = .ok (.aload_n 2, 1) := by decide +kernel
theorem d_Lw_law_481 : decode code 481 = .ok (.aload_n 0, 1) := by decide +kernel
theorem d_Lw_law_482 : decode code 482 = .ok (.iload 4, 2) := by decide +kernel
theorem d_Lw_law_484 : decode code 484 = .ok (.iconst 1, 1) := by decide +kernel
theorem d_Lw_law_485 : decode code 485 = .ok (.iadd, 1) := by decide +kernel
theorem d_Lw_law_486 : decode code 486 = .ok (.iaload, 1) := by decide +kernel
theorem d_Lw_law_487 : decode code 487 = .ok (.aload_n 0, 1) := by decide +kernel
theorem d_Lw_law_488 : decode code 488 = .ok (.iload 4, 2) := by decide +kernel
theorem d_Lw_law_490 : decode code 490 = .ok (.iconst 2, 1) := by decide +kernel
theorem d_Lw_law_491 : decode code 491 = .ok (.iadd, 1) := by decide +kernel
theorem d_Lw_law_492 : decode code 492 = .ok (.iaload, 1) := by decide +kernel
theorem d_Lw_law_493 : decode code 493 = .ok (.ifCond .eq 7, 3) := by decide +kernel
theorem d_Lw_law_496 : decode code 496 = .ok (.iconst 1, 1) := by decide +kernel
theorem d_Lw_law_497 : decode code 497 = .ok (.goto 4, 3) := by decide +kernel
theorem d_Lw_law_500 : decode code 500 = .ok (.iconst 0, 1) := by decide +kernel
theorem d_Lw_law_501 : decode code 501 = .ok (.invokevirtual 49, 3) := by decide +kernel
theorem d_Lw_law_504 : decode code 504 = .ok (.if_icmp .eq 1159, 3) := by decide +kernel
theorem d_Lw_law_507 : decode code 507 = .ok (.iconst 0, 1) := by decide +kernel
theorem d_Lw_law_508 : decode code 508 = .ok (.ireturn, 1) := by decide +kernel
theorem d_Lw_law_509 : decode code 509 = .ok (.aload_n 1, 1) := by decide +kernel
theorem d_Lw_law_510 : decode code 510 = .ok (.aload_n 0, 1) := by decide +kernel
theorem d_Lw_law_511 : decode code 511 = .ok (.iload 4, 2) := by decide +kernel
theorem d_Lw_law_513 : decode code 513 = .ok (.iconst 1, 1) := by decide +kernel
theorem d_Lw_law_514 : decode code 514 = .ok (.iadd, 1) := by decide +kernel
theorem d_Lw_law_515 : decode code 515 = .ok (.iaload, 1) := by decide +kernel
theorem d_Lw_law_516 : decode code 516 = .ok (.aload_n 0, 1) := by decide +kernel
theorem d_Lw_law_517 : decode code 517 = .ok (.iload 4, 2) := by decide +kernel
theorem d_Lw_law_519 : decode code 519 = .ok (.iconst 2, 1) := by decide +kernel
theorem d_Lw_law_520 : decode code 520 = .ok (.iadd, 1) := by decide +kernel
theorem d_Lw_law_521 : decode code 521 = .ok (.iaload, 1) := by decide +kernel
theorem d_Lw_law_522 : decode code 522 = .ok (.invokevirtual 50, 3) := by decide +kernel
theorem d_Lw_law_525 : decode code 525 = .ok (.aload_n 2, 1) := by decide +kernel
theorem d_Lw_law_526 : decode code 526 = .ok (.aload_n 0, 1) := by decide +kernel
theorem d_Lw_law_527 : decode code 527 = .ok (.iload 4, 2) := by decide +kernel
theorem d_Lw_law_529 : decode code 529 = .ok (.iconst 1, 1) := by decide +kernel
theorem d_Lw_law_530 : decode code 530 = .ok (.iadd, 1) := by decide +kernel
theorem d_Lw_law_531 : decode code 531 = .ok (.iaload, 1) := by decide +kernel
theorem d_Lw_law_532 : decode code 532 = .ok (.aload_n 0, 1) := by decide +kernel
theorem d_Lw_law_533 : decode code 533 = .ok (.iload 4, 2) := by decide +kernel
theorem d_Lw_law_535 : decode code 535 = .ok (.iconst 2, 1) := by decide +kernel
theorem d_Lw_law_536 : decode code 536 = .ok (.iadd, 1) := by decide +kernel
theorem d_Lw_law_537 : decode code 537 = .ok (.iaload, 1) := by decide +kernel
theorem d_Lw_law_538 : decode code 538 = .ok (.invokevirtual 54, 3) := by decide +kernel
theorem d_Lw_law_541 : decode code 541 = .ok (.if_icmp .eq 1122, 3) := by decide +kernel
theorem d_Lw_law_544 : decode code 544 = .ok (.iconst 0, 1) := by decide +kernel
theorem d_Lw_law_545 : decode code 545 = .ok (.ireturn, 1) := by decide +kernel
theorem d_Lw_law_546 : decode code 546 = .ok (.aload_n 1, 1) := by decide +kernel
theorem d_Lw_law_547 : decode code 547 = .ok (.aload_n 0, 1) := by decide +kernel
theorem d_Lw_law_548 : decode code 548 = .ok (.iload 4, 2) := by decide +kernel
theorem d_Lw_law_550 : decode code 550 = .ok (.iconst 1, 1) := by decide +kernel
theorem d_Lw_law_551 : decode code 551 = .ok (.iadd, 1) := by decide +kernel
theorem d_Lw_law_552 : decode code 552 = .ok (.iaload, 1) := by decide +kernel
theorem d_Lw_law_553 : decode code 553 = .ok (.invokevirtual 55, 3) := by decide +kernel
theorem d_Lw_law_556 : decode code 556 = .ok (.aload_n 2, 1) := by decide +kernel
theorem d_Lw_law_557 : decode code 557 = .ok (.aload_n 0, 1) := by decide +kernel
theorem d_Lw_law_558 : decode code 558 = .ok (.iload 4, 2) := by decide +kernel
theorem d_Lw_law_560 : decode code 560 = .ok (.iconst 1, 1) := by decide +kernel
theorem d_Lw_law_561 : decode code 561 = .ok (.iadd, 1) := by decide +kernel
theorem d_Lw_law_562 : decode code 562 = .ok (.iaload, 1) := by decide +kernel
theorem d_Lw_law_563 : decode code 563 = .ok (.invokevirtual 58, 3) := by decide +kernel
theorem d_Lw_law_566 : decode code 566 = .ok (.if_icmp .eq 1097, 3) := by decide +kernel
theorem d_Lw_law_569 : decode code 569 = .ok (.iconst 0, 1) := by decide +kernel
theorem d_Lw_law_570 : decode code 570 = .ok (.ireturn, 1) := by decide +kernel
theorem d_Lw_law_571 : decode code 571 = .ok (.aload_n 1, 1) := by decide +kernel
theorem d_Lw_law_572 : decode code 572 = .ok (.aload_n 0, 1) := by decide +kernel
theorem d_Lw_law_573 : decode code 573 = .ok (.iload 4, 2) := by decide +kernel
theorem d_Lw_law_575 : decode code 575 = .ok (.iconst 1, 1) := by decide +kernel
theorem d_Lw_law_576 : decode code 576 = .ok (.iadd, 1) := by decide +kernel
theorem d_Lw_law_577 : decode code 577 = .ok (.iaload, 1) := by decide +kernel
theorem d_Lw_law_578 : decode code 578 = .ok (.invokevirtual 59, 3) := by decide +kernel
theorem d_Lw_law_581 : decode code 581 = .ok (.aload_n 2, 1) := by decide +kernel
theorem d_Lw_law_582 : decode code 582 = .ok (.aload_n 0, 1) := by decide +kernel
theorem d_Lw_law_583 : decode code 583 = .ok (.iload 4, 2) := by decide +kernel
theorem d_Lw_law_585 : decode code 585 = .ok (.iconst 1, 1) := by decide +kernel
theorem d_Lw_law_586 : decode code 586 = .ok (.iadd, 1) := by decide +kernel
theorem d_Lw_law_587 : decode code 587 = .ok (.iaload, 1) := by decide +kernel
theorem d_Lw_law_588 : decode code 588 = .ok (.invokevirtual 62, 3) := by decide +kernel
theorem d_Lw_law_591 : decode code 591 = .ok (.if_icmp .eq 1072, 3) := by decide +kernel
theorem d_Lw_law_594 : decode code 594 = .ok (.iconst 0, 1) := by decide +kernel
theorem d_Lw_law_595 : decode code 595 = .ok (.ireturn, 1) := by decide +kernel
theorem d_Lw_law_596 : decode code 596 = .ok (.aload_n 1, 1) := by decide +kernel
theorem d_Lw_law_597 : decode code 597 = .ok (.aload_n 0, 1) := by decide +kernel
theorem d_Lw_law_598 : decode code 598 = .ok (.iload 4, 2) := by decide +kernel
theorem d_Lw_law_600 : decode code 600 = .ok (.iconst 1, 1) := by decide +kernel
theorem d_Lw_law_601 : decode code 601 = .ok (.iadd, 1) := by decide +kernel
theorem d_Lw_law_602 : decode code 602 = .ok (.iaload, 1) := by decide +kernel
theorem d_Lw_law_603 : decode code 603 = .ok (.invokevirtual 63, 3) := by decide +kernel
theorem d_Lw_law_606 : decode code 606 = .ok (.aload_n 2, 1) := by decide +kernel
theorem d_Lw_law_607 : decode code 607 = .ok (.aload_n 0, 1) := by decide +kernel
theorem d_Lw_law_608 : decode code 608 = .ok (.iload 4, 2) := by decide +kernel
theorem d_Lw_law_610 : decode code 610 = .ok (.iconst 1, 1) := by decide +kernel
theorem d_Lw_law_611 : decode code 611 = .ok (.iadd, 1) := by decide +kernel
theorem d_Lw_law_612 : decode code 612 = .ok (.iaload, 1) := by decide +kernel
theorem d_Lw_law_613 : decode code 613 = .ok (.invokevirtual 66, 3) := by decide +kernel
theorem d_Lw_law_616 : decode code 616 = .ok (.if_icmp .eq 1047, 3) := by decide +kernel
theorem d_Lw_law_619 : decode code 619 = .ok (.iconst 0, 1) := by decide +kernel
theorem d_Lw_law_620 : decode code 620 = .ok (.ireturn, 1) := by decide +kernel
theorem d_Lw_law_621 : decode code 621 = .ok (.aload_n 1, 1) := by decide +kernel
theorem d_Lw_law_622 : decode code 622 = .ok (.aload_n 0, 1) := by decide +kernel
theorem d_Lw_law_623 : decode code 623 = .ok (.iload 4, 2) := by decide +kernel
theorem d_Lw_law_625 : decode code 625 = .ok (.iconst 1, 1) := by decide +kernel
theorem d_Lw_law_626 : decode code 626 = .ok (.iadd, 1) := by decide +kernel
theorem d_Lw_law_627 : decode code 627 = .ok (.iaload, 1) := by decide +kernel
theorem d_Lw_law_628 : decode code 628 = .ok (.aload_n 0, 1) := by decide +kernel
theorem d_Lw_law_629 : decode code 629 = .ok (.iload 4, 2) := by decide +kernel
theorem d_Lw_law_631 : decode code 631 = .ok (.iconst 2, 1) := by decide +kernel
theorem d_Lw_law_632 : decode code 632 = .ok (.iadd, 1) := by decide +kernel
theorem d_Lw_law_633 : decode code 633 = .ok (.iaload, 1) := by decide +kernel
theorem d_Lw_law_634 : decode code 634 = .ok (.invokevirtual 67, 3) := by decide +kernel
theorem d_Lw_law_637 : decode code 637 = .ok (.aload_n 2, 1) := by decide +kernel
theorem d_Lw_law_638 : decode code 638 = .ok (.aload_n 0, 1) := by decide +kernel
theorem d_Lw_law_639 : decode code 639 = .ok (.iload 4, 2) := by decide +kernel
theorem d_Lw_law_641 : decode code 641 = .ok (.iconst 1, 1) := by decide +kernel
theorem d_Lw_law_642 : decode code 642 = .ok (.iadd, 1) := by decide +kernel
theorem d_Lw_law_643 : decode code 643 = .ok (.iaload, 1) := by decide +kernel
theorem d_Lw_law_644 : decode code 644 = .ok (.aload_n 0, 1) := by decide +kernel
theorem d_Lw_law_645 : decode code 645 = .ok (.iload 4, 2) := by decide +kernel
theorem d_Lw_law_647 : decode code 647 = .ok (.iconst 2, 1) := by decide +kernel
theorem d_Lw_law_648 : decode code 648 = .ok (.iadd, 1) := by decide +kernel
theorem d_Lw_law_649 : decode code 649 = .ok (.iaload, 1) := by decide +kernel
theorem d_Lw_law_650 : decode code 650 = .ok (.invokevirtual 70, 3) := by decide +kernel
theorem d_Lw_law_653 : decode code 653 = .ok (.if_icmp .eq 1010, 3) := by decide +kernel
theorem d_Lw_law_656 : decode code 656 = .ok (.iconst 0, 1) := by decide +kernel
theorem d_Lw_law_657 : decode code 657 = .ok (.ireturn, 1) := by decide +kernel
theorem d_Lw_law_658 : decode code 658 = .ok (.aload_n 1, 1) := by decide +kernel
theorem d_Lw_law_659 : decode code 659 = .ok (.aload_n 0, 1) := by decide +kernel
theorem d_Lw_law_660 : decode code 660 = .ok (.iload 4, 2) := by decide +kernel
theorem d_Lw_law_662 : decode code 662 = .ok (.iconst 1, 1) := by decide +kernel
theorem d_Lw_law_663 : decode code 663 = .ok (.iadd, 1) := by decide +kernel
theorem d_Lw_law_664 : decode code 664 = .ok (.iaload, 1) := by decide +kernel
theorem d_Lw_law_665 : decode code 665 = .ok (.invokevirtual 71, 3) := by decide +kernel
theorem d_Lw_law_668 : decode code 668 = .ok (.aload_n 2, 1) := by decide +kernel
theorem d_Lw_law_669 : decode code 669 = .ok (.aload_n 0, 1) := by decide +kernel
theorem d_Lw_law_670 : decode code 670 = .ok (.iload 4, 2) := by decide +kernel
theorem d_Lw_law_672 : decode code 672 = .ok (.iconst 1, 1) := by decide +kernel
theorem d_Lw_law_673 : decode code 673 = .ok (.iadd, 1) := by decide +kernel
theorem d_Lw_law_674 : decode code 674 = .ok (.iaload, 1) := by decide +kernel
theorem d_Lw_law_675 : decode code 675 = .ok (.invokevirtual 74, 3) := by decide +kernel
theorem d_Lw_law_678 : decode code 678 = .ok (.if_icmp .eq 985, 3) := by decide +kernel
theorem d_Lw_law_681 : decode code 681 = .ok (.iconst 0, 1) := by decide +kernel
theorem d_Lw_law_682 : decode code 682 = .ok (.ireturn, 1) := by decide +kernel
theorem d_Lw_law_683 : decode code 683 = .ok (.aload_n 1, 1) := by decide +kernel
theorem d_Lw_law_684 : decode code 684 = .ok (.aload_n 0, 1) := by decide +kernel
theorem d_Lw_law_685 : decode code 685 = .ok (.iload 4, 2) := by decide +kernel
theorem d_Lw_law_687 : decode code 687 = .ok (.iconst 1, 1) := by decide +kernel
theorem d_Lw_law_688 : decode code 688 = .ok (.iadd, 1) := by decide +kernel
theorem d_Lw_law_689 : decode code 689 = .ok (.iaload, 1) := by decide +kernel
theorem d_Lw_law_690 : decode code 690 = .ok (.invokevirtual 75, 3) := by decide +kernel
theorem d_Lw_law_693 : decode code 693 = .ok (.aload_n 2, 1) := by decide +kernel
theorem d_Lw_law_694 : decode code 694 = .ok (.aload_n 0, 1) := by decide +kernel
theorem d_Lw_law_695 : decode code 695 = .ok (.iload 4, 2) := by decide +kernel
theorem d_Lw_law_697 : decode code 697 = .ok (.iconst 1, 1) := by decide +kernel
theorem d_Lw_law_698 : decode code 698 = .ok (.iadd, 1) := by decide +kernel
theorem d_Lw_law_699 : decode code 699 = .ok (.iaload, 1) := by decide +kernel
theorem d_Lw_law_700 : decode code 700 = .ok (.invokevirtual 78, 3) := by decide +kernel
theorem d_Lw_law_703 : decode code 703 = .ok (.if_icmp .eq 960, 3) := by decide +kernel
theorem d_Lw_law_706 : decode code 706 = .ok (.iconst 0, 1) := by decide +kernel
theorem d_Lw_law_707 : decode code 707 = .ok (.ireturn, 1) := by decide +kernel
theorem d_Lw_law_708 : decode code 708 = .ok (.aload_n 1, 1) := by decide +kernel
theorem d_Lw_law_709 : decode code 709 = .ok (.aload_n 0, 1) := by decide +kernel
theorem d_Lw_law_710 : decode code 710 = .ok (.iload 4, 2) := by decide +kernel
theorem d_Lw_law_712 : decode code 712 = .ok (.iconst 1, 1) := by decide +kernel
theorem d_Lw_law_713 : decode code 713 = .ok (.iadd, 1) := by decide +kernel
theorem d_Lw_law_714 : decode code 714 = .ok (.iaload, 1) := by decide +kernel
theorem d_Lw_law_715 : decode code 715 = .ok (.aload_n 0, 1) := by decide +kernel
theorem d_Lw_law_716 : decode code 716 = .ok (.iload 4, 2) := by decide +kernel
theorem d_Lw_law_718 : decode code 718 = .ok (.iconst 2, 1) := by decide +kernel
theorem d_Lw_law_719 : decode code 719 = .ok (.iadd, 1) := by decide +kernel
theorem d_Lw_law_720 : decode code 720 = .ok (.iaload, 1) := by decide +kernel
theorem d_Lw_law_721 : decode code 721 = .ok (.aload_n 0, 1) := by decide +kernel
theorem d_Lw_law_722 : decode code 722 = .ok (.iload 4, 2) := by decide +kernel
theorem d_Lw_law_724 : decode code 724 = .ok (.iconst 3, 1) := by decide +kernel
theorem d_Lw_law_725 : decode code 725 = .ok (.iadd, 1) := by decide +kernel
theorem d_Lw_law_726 : decode code 726 = .ok (.iaload, 1) := by decide +kernel
theorem d_Lw_law_727 : decode code 727 = .ok (.invokevirtual 79, 3) := by decide +kernel
theorem d_Lw_law_730 : decode code 730 = .ok (.aload_n 2, 1) := by decide +kernel
theorem d_Lw_law_731 : decode code 731 = .ok (.aload_n 0, 1) := by decide +kernel
theorem d_Lw_law_732 : decode code 732 = .ok (.iload 4, 2) := by decide +kernel
theorem d_Lw_law_734 : decode code 734 = .ok (.iconst 1, 1) := by decide +kernel
theorem d_Lw_law_735 : decode code 735 = .ok (.iadd, 1) := by decide +kernel
theorem d_Lw_law_736 : decode code 736 = .ok (.iaload, 1) := by decide +kernel
theorem d_Lw_law_737 : decode code 737 = .ok (.aload_n 0, 1) := by decide +kernel
theorem d_Lw_law_738 : decode code 738 = .ok (.iload 4, 2) := by decide +kernel
theorem d_Lw_law_740 : decode code 740 = .ok (.iconst 2, 1) := by decide +kernel
theorem d_Lw_law_741 : decode code 741 = .ok (.iadd, 1) := by decide +kernel
theorem d_Lw_law_742 : decode code 742 = .ok (.iaload, 1) := by decide +kernel
theorem d_Lw_law_743 : decode code 743 = .ok (.aload_n 0, 1) := by decide +kernel
theorem d_Lw_law_744 : decode code 744 = .ok (.iload 4, 2) := by decide +kernel
theorem d_Lw_law_746 : decode code 746 = .ok (.iconst 3, 1) := by decide +kernel
theorem d_Lw_law_747 : decode code 747 = .ok (.iadd, 1) := by decide +kernel
theorem d_Lw_law_748 : decode code 748 = .ok (.iaload, 1) := by decide +kernel
theorem d_Lw_law_749 : decode code 749 = .ok (.invokevirtual 82, 3) := by decide +kernel
theorem d_Lw_law_752 : decode code 752 = .ok (.if_icmp .eq 911, 3) := by decide +kernel
theorem d_Lw_law_755 : decode code 755 = .ok (.iconst 0, 1) := by decide +kernel
theorem d_Lw_law_756 : decode code 756 = .ok (.ireturn, 1) := by decide +kernel
theorem d_Lw_law_757 : decode code 757 = .ok (.aload_n 1, 1) := by decide +kernel
theorem d_Lw_law_758 : decode code 758 = .ok (.aload_n 0, 1) := by decide +kernel
theorem d_Lw_law_759 : decode code 759 = .ok (.iload 4, 2) := by decide +kernel
theorem d_Lw_law_761 : decode code 761 = .ok (.iconst 1, 1) := by decide +kernel
theorem d_Lw_law_762 : decode code 762 = .ok (.iadd, 1) := by decide +kernel
theorem d_Lw_law_763 : decode code 763 = .ok (.iaload, 1) := by decide +kernel
theorem d_Lw_law_764 : decode code 764 = .ok (.aload_n 0, 1) := by decide +kernel
theorem d_Lw_law_765 : decode code 765 = .ok (.iload 4, 2) := by decide +kernel
theorem d_Lw_law_767 : decode code 767 = .ok (.iconst 2, 1) := by decide +kernel
theorem d_Lw_law_768 : decode code 768 = .ok (.iadd, 1) := by decide +kernel
theorem d_Lw_law_769 : decode code 769 = .ok (.iaload, 1) := by decide +kernel
theorem d_Lw_law_770 : decode code 770 = .ok (.aload_n 0, 1) := by decide +kernel
theorem d_Lw_law_771 : decode code 771 = .ok (.iload 4, 2) := by decide +kernel
theorem d_Lw_law_773 : decode code 773 = .ok (.iconst 3, 1) := by decide +kernel
theorem d_Lw_law_774 : decode code 774 = .ok (.iadd, 1) := by decide +kernel
theorem d_Lw_law_775 : decode code 775 = .ok (.iaload, 1) := by decide +kernel
theorem d_Lw_law_776 : decode code 776 = .ok (.aload_n 3, 1) := by decide +kernel
theorem d_Lw_law_777 : decode code 777 = .ok (.invokestatic 83, 3) := by decide +kernel
theorem d_Lw_law_780 : decode code 780 = .ok (.istore 5, 2) := by decide +kernel
theorem d_Lw_law_782 : decode code 782 = .ok (.aload_n 2, 1) := by decide +kernel
theorem d_Lw_law_783 : decode code 783 = .ok (.aload_n 0, 1) := by decide +kernel
theorem d_Lw_law_784 : decode code 784 = .ok (.iload 4, 2) := by decide +kernel
theorem d_Lw_law_786 : decode code 786 = .ok (.iconst 1, 1) := by decide +kernel
theorem d_Lw_law_787 : decode code 787 = .ok (.iadd, 1) := by decide +kernel
theorem d_Lw_law_788 : decode code 788 = .ok (.iaload, 1) := by decide +kernel
theorem d_Lw_law_789 : decode code 789 = .ok (.aload_n 0, 1) := by decide +kernel
theorem d_Lw_law_790 : decode code 790 = .ok (.iload 4, 2) := by decide +kernel
theorem d_Lw_law_792 : decode code 792 = .ok (.iconst 2, 1) := by decide +kernel
theorem d_Lw_law_793 : decode code 793 = .ok (.iadd, 1) := by decide +kernel
theorem d_Lw_law_794 : decode code 794 = .ok (.iaload, 1) := by decide +kernel
theorem d_Lw_law_795 : decode code 795 = .ok (.aload_n 0, 1) := by decide +kernel
theorem d_Lw_law_796 : decode code 796 = .ok (.iload 4, 2) := by decide +kernel
theorem d_Lw_law_798 : decode code 798 = .ok (.iconst 3, 1) := by decide +kernel
theorem d_Lw_law_799 : decode code 799 = .ok (.iadd, 1) := by decide +kernel
theorem d_Lw_law_800 : decode code 800 = .ok (.iaload, 1) := by decide +kernel
theorem d_Lw_law_801 : decode code 801 = .ok (.invokevirtual 88, 3) := by decide +kernel
theorem d_Lw_law_804 : decode code 804 = .ok (.istore 6, 2) := by decide +kernel
theorem d_Lw_law_806 : decode code 806 = .ok (.aload_n 2, 1) := by decide +kernel
theorem d_Lw_law_807 : decode code 807 = .ok (.invokevirtual 89, 3) := by decide +kernel
theorem d_Lw_law_810 : decode code 810 = .ok (.iload 5, 2) := by decide +kernel
theorem d_Lw_law_812 : decode code 812 = .ok (.if_icmp .eq 5, 3) := by decide +kernel
theorem d_Lw_law_815 : decode code 815 = .ok (.iconst 0, 1) := by decide +kernel
theorem d_Lw_law_816 : decode code 816 = .ok (.ireturn, 1) := by decide +kernel
theorem d_Lw_law_817 : decode code 817 = .ok (.iload 5, 2) := by decide +kernel
theorem d_Lw_law_819 : decode code 819 = .ok (.ifCond .ne 15, 3) := by decide +kernel
theorem d_Lw_law_822 : decode code 822 = .ok (.aload_n 3, 1) := by decide +kernel
theorem d_Lw_law_823 : decode code 823 = .ok (.iconst 0, 1) := by decide +kernel
theorem d_Lw_law_824 : decode code 824 = .ok (.laload, 1) := by decide +kernel
theorem d_Lw_law_825 : decode code 825 = .ok (.iload 6, 2) := by decide +kernel
theorem d_Lw_law_827 : decode code 827 = .ok (.i2l, 1) := by decide +kernel
theorem d_Lw_law_828 : decode code 828 = .ok (.lcmp, 1) := by decide +kernel
theorem d_Lw_law_829 : decode code 829 = .ok (.ifCond .eq 5, 3) := by decide +kernel
theorem d_Lw_law_832 : decode code 832 = .ok (.iconst 0, 1) := by decide +kernel
theorem d_Lw_law_833 : decode code 833 = .ok (.ireturn, 1) := by decide +kernel
theorem d_Lw_law_834 : decode code 834 = .ok (.goto 829, 3) := by decide +kernel
theorem d_Lw_law_837 : decode code 837 = .ok (.aload_n 1, 1) := by decide +kernel
theorem d_Lw_law_838 : decode code 838 = .ok (.aload_n 0, 1) := by decide +kernel
theorem d_Lw_law_839 : decode code 839 = .ok (.iload 4, 2) := by decide +kernel
theorem d_Lw_law_841 : decode code 841 = .ok (.iconst 1, 1) := by decide +kernel
theorem d_Lw_law_842 : decode code 842 = .ok (.iadd, 1) := by decide +kernel
theorem d_Lw_law_843 : decode code 843 = .ok (.iaload, 1) := by decide +kernel
theorem d_Lw_law_844 : decode code 844 = .ok (.aload_n 0, 1) := by decide +kernel
theorem d_Lw_law_845 : decode code 845 = .ok (.iload 4, 2) := by decide +kernel
theorem d_Lw_law_847 : decode code 847 = .ok (.iconst 2, 1) := by decide +kernel
theorem d_Lw_law_848 : decode code 848 = .ok (.iadd, 1) := by decide +kernel
theorem d_Lw_law_849 : decode code 849 = .ok (.iaload, 1) := by decide +kernel
theorem d_Lw_law_850 : decode code 850 = .ok (.aload_n 0, 1) := by decide +kernel
theorem d_Lw_law_851 : decode code 851 = .ok (.iload 4, 2) := by decide +kernel
theorem d_Lw_law_853 : decode code 853 = .ok (.iconst 3, 1) := by decide +kernel
theorem d_Lw_law_854 : decode code 854 = .ok (.iadd, 1) := by decide +kernel
theorem d_Lw_law_855 : decode code 855 = .ok (.iaload, 1) := by decide +kernel
theorem d_Lw_law_856 : decode code 856 = .ok (.invokevirtual 92, 3) := by decide +kernel
theorem d_Lw_law_859 : decode code 859 = .ok (.aload_n 2, 1) := by decide +kernel
theorem d_Lw_law_860 : decode code 860 = .ok (.aload_n 0, 1) := by decide +kernel
theorem d_Lw_law_861 : decode code 861 = .ok (.iload 4, 2) := by decide +kernel
theorem d_Lw_law_863 : decode code 863 = .ok (.iconst 1, 1) := by decide +kernel
theorem d_Lw_law_864 : decode code 864 = .ok (.iadd, 1) := by decide +kernel
theorem d_Lw_law_865 : decode code 865 = .ok (.iaload, 1) := by decide +kernel
theorem d_Lw_law_866 : decode code 866 = .ok (.aload_n 0, 1) := by decide +kernel
theorem d_Lw_law_867 : decode code 867 = .ok (.iload 4, 2) := by decide +kernel
theorem d_Lw_law_869 : decode code 869 = .ok (.iconst 2, 1) := by decide +kernel
theorem d_Lw_law_870 : decode code 870 = .ok (.iadd, 1) := by decide +kernel
theorem d_Lw_law_871 : decode code 871 = .ok (.iaload, 1) := by decide +kernel
theorem d_Lw_law_872 : decode code 872 = .ok (.aload_n 0, 1) := by decide +kernel
theorem d_Lw_law_873 : decode code 873 = .ok (.iload 4, 2) := by decide +kernel
theorem d_Lw_law_875 : decode code 875 = .ok (.iconst 3, 1) := by decide +kernel
theorem d_Lw_law_876 : decode code 876 = .ok (.iadd, 1) := by decide +kernel
theorem d_Lw_law_877 : decode code 877 = .ok (.iaload, 1) := by decide +kernel
theorem d_Lw_law_878 : decode code 878 = .ok (.invokevirtual 95, 3) := by decide +kernel
theorem d_Lw_law_881 : decode code 881 = .ok (.if_icmp .eq 782, 3) := by decide +kernel
theorem d_Lw_law_884 : decode code 884 = .ok (.iconst 0, 1) := by decide +kernel
theorem d_Lw_law_885 : decode code 885 = .ok (.ireturn, 1) := by decide +kernel
theorem d_Lw_law_886 : decode code 886 = .ok (.aload_n 1, 1) := by decide +kernel
theorem d_Lw_law_887 : decode code 887 = .ok (.aload_n 0, 1) := by decide +kernel
theorem d_Lw_law_888 : decode code 888 = .ok (.iload 4, 2) := by decide +kernel
theorem d_Lw_law_890 : decode code 890 = .ok (.iconst 1, 1) := by decide +kernel
theorem d_Lw_law_891 : decode code 891 = .ok (.iadd, 1) := by decide +kernel
theorem d_Lw_law_892 : decode code 892 = .ok (.iaload, 1) := by decide +kernel
theorem d_Lw_law_893 : decode code 893 = .ok (.invokevirtual 96, 3) := by decide +kernel
theorem d_Lw_law_896 : decode code 896 = .ok (.aload_n 2, 1) := by decide +kernel
theorem d_Lw_law_897 : decode code 897 = .ok (.aload_n 0, 1) := by decide +kernel
theorem d_Lw_law_898 : decode code 898 = .ok (.iload 4, 2) := by decide +kernel
theorem d_Lw_law_900 : decode code 900 = .ok (.iconst 1, 1) := by decide +kernel
theorem d_Lw_law_901 : decode code 901 = .ok (.iadd, 1) := by decide +kernel
theorem d_Lw_law_902 : decode code 902 = .ok (.iaload, 1) := by decide +kernel
theorem d_Lw_law_903 : decode code 903 = .ok (.invokevirtual 99, 3) := by decide +kernel
theorem d_Lw_law_906 : decode code 906 = .ok (.if_icmp .eq 757, 3) := by decide +kernel
theorem d_Lw_law_909 : decode code 909 = .ok (.iconst 0, 1) := by decide +kernel
theorem d_Lw_law_910 : decode code 910 = .ok (.ireturn, 1) := by decide +kernel
theorem d_Lw_law_911 : decode code 911 = .ok (.aload_n 1, 1) := by decide +kernel
theorem d_Lw_law_912 : decode code 912 = .ok (.aload_n 0, 1) := by decide +kernel
theorem d_Lw_law_913 : decode code 913 = .ok (.iload 4, 2) := by decide +kernel
theorem d_Lw_law_915 : decode code 915 = .ok (.iconst 1, 1) := by decide +kernel
theorem d_Lw_law_916 : decode code 916 = .ok (.iadd, 1) := by decide +kernel
theorem d_Lw_law_917 : decode code 917 = .ok (.iaload, 1) := by decide +kernel
theorem d_Lw_law_918 : decode code 918 = .ok (.aload_n 0, 1) := by decide +kernel
theorem d_Lw_law_919 : decode code 919 = .ok (.iload 4, 2) := by decide +kernel
theorem d_Lw_law_921 : decode code 921 = .ok (.iconst 2, 1) := by decide +kernel
theorem d_Lw_law_922 : decode code 922 = .ok (.iadd, 1) := by decide +kernel
theorem d_Lw_law_923 : decode code 923 = .ok (.iaload, 1) := by decide +kernel
theorem d_Lw_law_924 : decode code 924 = .ok (.invokevirtual 100, 3) := by decide +kernel
theorem d_Lw_law_927 : decode code 927 = .ok (.aload_n 2, 1) := by decide +kernel
theorem d_Lw_law_928 : decode code 928 = .ok (.aload_n 0, 1) := by decide +kernel
theorem d_Lw_law_929 : decode code 929 = .ok (.iload 4, 2) := by decide +kernel
theorem d_Lw_law_931 : decode code 931 = .ok (.iconst 1, 1) := by decide +kernel
theorem d_Lw_law_932 : decode code 932 = .ok (.iadd, 1) := by decide +kernel
theorem d_Lw_law_933 : decode code 933 = .ok (.iaload, 1) := by decide +kernel
theorem d_Lw_law_934 : decode code 934 = .ok (.aload_n 0, 1) := by decide +kernel
theorem d_Lw_law_935 : decode code 935 = .ok (.iload 4, 2) := by decide +kernel
theorem d_Lw_law_937 : decode code 937 = .ok (.iconst 2, 1) := by decide +kernel
theorem d_Lw_law_938 : decode code 938 = .ok (.iadd, 1) := by decide +kernel
theorem d_Lw_law_939 : decode code 939 = .ok (.iaload, 1) := by decide +kernel
theorem d_Lw_law_940 : decode code 940 = .ok (.invokevirtual 103, 3) := by decide +kernel
theorem d_Lw_law_943 : decode code 943 = .ok (.if_icmp .eq 720, 3) := by decide +kernel
theorem d_Lw_law_946 : decode code 946 = .ok (.iconst 0, 1) := by decide +kernel
theorem d_Lw_law_947 : decode code 947 = .ok (.ireturn, 1) := by decide +kernel
theorem d_Lw_law_948 : decode code 948 = .ok (.aload_n 1, 1) := by decide +kernel
theorem d_Lw_law_949 : decode code 949 = .ok (.aload_n 0, 1) := by decide +kernel
theorem d_Lw_law_950 : decode code 950 = .ok (.iload 4, 2) := by decide +kernel
theorem d_Lw_law_952 : decode code 952 = .ok (.iconst 1, 1) := by decide +kernel
theorem d_Lw_law_953 : decode code 953 = .ok (.iadd, 1) := by decide +kernel
theorem d_Lw_law_954 : decode code 954 = .ok (.iaload, 1) := by decide +kernel
theorem d_Lw_law_955 : decode code 955 = .ok (.invokevirtual 104, 3) := by decide +kernel
theorem d_Lw_law_958 : decode code 958 = .ok (.aload_n 2, 1) := by decide +kernel
theorem d_Lw_law_959 : decode code 959 = .ok (.aload_n 0, 1) := by decide +kernel
theorem d_Lw_law_960 : decode code 960 = .ok (.iload 4, 2) := by decide +kernel
theorem d_Lw_law_962 : decode code 962 = .ok (.iconst 1, 1) := by decide +kernel
theorem d_Lw_law_963 : decode code 963 = .ok (.iadd, 1) := by decide +kernel
theorem d_Lw_law_964 : decode code 964 = .ok (.iaload, 1) := by decide +kernel
theorem d_Lw_law_965 : decode code 965 = .ok (.invokevirtual 107, 3) := by decide +kernel
theorem d_Lw_law_968 : decode code 968 = .ok (.if_icmp .eq 695, 3) := by decide +kernel
theorem d_Lw_law_971 : decode code 971 = .ok (.iconst 0, 1) := by decide +kernel
theorem d_Lw_law_972 : decode code 972 = .ok (.ireturn, 1) := by decide +kernel
theorem d_Lw_law_973 : decode code 973 = .ok (.aload_n 1, 1) := by decide +kernel
theorem d_Lw_law_974 : decode code 974 = .ok (.aload_n 0, 1) := by decide +kernel
theorem d_Lw_law_975 : decode code 975 = .ok (.iload 4, 2) := by decide +kernel
theorem d_Lw_law_977 : decode code 977 = .ok (.iconst 1, 1) := by decide +kernel
theorem d_Lw_law_978 : decode code 978 = .ok (.iadd, 1) := by decide +kernel
theorem d_Lw_law_979 : decode code 979 = .ok (.iaload, 1) := by decide +kernel
theorem d_Lw_law_980 : decode code 980 = .ok (.invokevirtual 108, 3) := by decide +kernel
theorem d_Lw_law_983 : decode code 983 = .ok (.aload_n 2, 1) := by decide +kernel
theorem d_Lw_law_984 : decode code 984 = .ok (.aload_n 0, 1) := by decide +kernel
theorem d_Lw_law_985 : decode code 985 = .ok (.iload 4, 2) := by decide +kernel
theorem d_Lw_law_987 : decode code 987 = .ok (.iconst 1, 1) := by decide +kernel
theorem d_Lw_law_988 : decode code 988 = .ok (.iadd, 1) := by decide +kernel
theorem d_Lw_law_989 : decode code 989 = .ok (.iaload, 1) := by decide +kernel
theorem d_Lw_law_990 : decode code 990 = .ok (.invokevirtual 111, 3) := by decide +kernel
theorem d_Lw_law_993 : decode code 993 = .ok (.if_icmp .eq 670, 3) := by decide +kernel
theorem d_Lw_law_996 : decode code 996 = .ok (.iconst 0, 1) := by decide +kernel
theorem d_Lw_law_997 : decode code 997 = .ok (.ireturn, 1) := by decide +kernel
theorem d_Lw_law_998 : decode code 998 = .ok (.aload_n 1, 1) := by decide +kernel
theorem d_Lw_law_999 : decode code 999 = .ok (.aload_n 0, 1) := by decide +kernel
theorem d_Lw_law_1000 : decode code 1000 = .ok (.iload 4, 2) := by decide +kernel
theorem d_Lw_law_1002 : decode code 1002 = .ok (.iconst 1, 1) := by decide +kernel
theorem d_Lw_law_1003 : decode code 1003 = .ok (.iadd, 1) := by decide +kernel
theorem d_Lw_law_1004 : decode code 1004 = .ok (.iaload, 1) := by decide +kernel
theorem d_Lw_law_1005 : decode code 1005 = .ok (.invokevirtual 112, 3) := by decide +kernel
theorem d_Lw_law_1008 : decode code 1008 = .ok (.aload_n 2, 1) := by decide +kernel
theorem d_Lw_law_1009 : decode code 1009 = .ok (.aload_n 0, 1) := by decide +kernel
theorem d_Lw_law_1010 : decode code 1010 = .ok (.iload 4, 2) := by decide +kernel
theorem d_Lw_law_1012 : decode code 1012 = .ok (.iconst 1, 1) := by decide +kernel
theorem d_Lw_law_1013 : decode code 1013 = .ok (.iadd, 1) := by decide +kernel
theorem d_Lw_law_1014 : decode code 1014 = .ok (.iaload, 1) := by decide +kernel
theorem d_Lw_law_1015 : decode code 1015 = .ok (.invokevirtual 115, 3) := by decide +kernel
theorem d_Lw_law_1018 : decode code 1018 = .ok (.if_icmp .eq 645, 3) := by decide +kernel
theorem d_Lw_law_1021 : decode code 1021 = .ok (.iconst 0, 1) := by decide +kernel
theorem d_Lw_law_1022 : decode code 1022 = .ok (.ireturn, 1) := by decide +kernel
theorem d_Lw_law_1023 : decode code 1023 = .ok (.aload_n 1, 1) := by decide +kernel
theorem d_Lw_law_1024 : decode code 1024 = .ok (.aload_n 0, 1) := by decide +kernel
theorem d_Lw_law_1025 : decode code 1025 = .ok (.iload 4, 2) := by decide +kernel
theorem d_Lw_law_1027 : decode code 1027 = .ok (.iconst 1, 1) := by decide +kernel
theorem d_Lw_law_1028 : decode code 1028 = .ok (.iadd, 1) := by decide +kernel
theorem d_Lw_law_1029 : decode code 1029 = .ok (.iaload, 1) := by decide +kernel
theorem d_Lw_law_1030 : decode code 1030 = .ok (.invokevirtual 116, 3) := by decide +kernel
theorem d_Lw_law_1033 : decode code 1033 = .ok (.aload_n 2, 1) := by decide +kernel
theorem d_Lw_law_1034 : decode code 1034 = .ok (.aload_n 0, 1) := by decide +kernel
theorem d_Lw_law_1035 : decode code 1035 = .ok (.iload 4, 2) := by decide +kernel
theorem d_Lw_law_1037 : decode code 1037 = .ok (.iconst 1, 1) := by decide +kernel
theorem d_Lw_law_1038 : decode code 1038 = .ok (.iadd, 1) := by decide +kernel
theorem d_Lw_law_1039 : decode code 1039 = .ok (.iaload, 1) := by decide +kernel
theorem d_Lw_law_1040 : decode code 1040 = .ok (.invokevirtual 119, 3) := by decide +kernel
theorem d_Lw_law_1043 : decode code 1043 = .ok (.if_icmp .eq 620, 3) := by decide +kernel
theorem d_Lw_law_1046 : decode code 1046 = .ok (.iconst 0, 1) := by decide +kernel
theorem d_Lw_law_1047 : decode code 1047 = .ok (.ireturn, 1) := by decide +kernel
theorem d_Lw_law_1048 : decode code 1048 = .ok (.aload_n 1, 1) := by decide +kernel
theorem d_Lw_law_1049 : decode code 1049 = .ok (.aload_n 0, 1) := by decide +kernel
theorem d_Lw_law_1050 : decode code 1050 = .ok (.iload 4, 2) := by decide +kernel
theorem d_Lw_law_1052 : decode code 1052 = .ok (.iconst 1, 1) := by decide +kernel
theorem d_Lw_law_1053 : decode code 1053 = .ok (.iadd, 1) := by decide +kernel
theorem d_Lw_law_1054 : decode code 1054 = .ok (.iaload, 1) := by decide +kernel
theorem d_Lw_law_1055 : decode code 1055 = .ok (.invokevirtual 120, 3) := by decide +kernel
theorem d_Lw_law_1058 : decode code 1058 = .ok (.aload_n 2, 1) := by decide +kernel
theorem d_Lw_law_1059 : decode code 1059 = .ok (.aload_n 0, 1) := by decide +kernel
theorem d_Lw_law_1060 : decode code 1060 = .ok (.iload 4, 2) := by decide +kernel
theorem d_Lw_law_1062 : decode code 1062 = .ok (.iconst 1, 1) := by decide +kernel
theorem d_Lw_law_1063 : decode code 1063 = .ok (.iadd, 1) := by decide +kernel
theorem d_Lw_law_1064 : decode code 1064 = .ok (.iaload, 1) := by decide +kernel
theorem d_Lw_law_1065 : decode code 1065 = .ok (.invokevirtual 123, 3) := by decide +kernel
theorem d_Lw_law_1068 : decode code 1068 = .ok (.if_icmp .eq 595, 3) := by decide +kernel
theorem d_Lw_law_1071 : decode code 1071 = .ok (.iconst 0, 1) := by decide +kernel
theorem d_Lw_law_1072 : decode code 1072 = .ok (.ireturn, 1) := by decide +kernel
theorem d_Lw_law_1073 : decode code 1073 = .ok (.aload_n 1, 1) := by decide +kernel
theorem d_Lw_law_1074 : decode code 1074 = .ok (.aload_n 0, 1) := by decide +kernel
theorem d_Lw_law_1075 : decode code 1075 = .ok (.iload 4, 2) := by decide +kernel
theorem d_Lw_law_1077 : decode code 1077 = .ok (.iconst 1, 1) := by decide +kernel
theorem d_Lw_law_1078 : decode code 1078 = .ok (.iadd, 1) := by decide +kernel
theorem d_Lw_law_1079 : decode code 1079 = .ok (.iaload, 1) := by decide +kernel
theorem d_Lw_law_1080 : decode code 1080 = .ok (.invokevirtual 124, 3) := by decide +kernel
theorem d_Lw_law_1083 : decode code 1083 = .ok (.aload_n 2, 1) := by decide +kernel
theorem d_Lw_law_1084 : decode code 1084 = .ok (.aload_n 0, 1) := by decide +kernel
theorem d_Lw_law_1085 : decode code 1085 = .ok (.iload 4, 2) := by decide +kernel
theorem d_Lw_law_1087 : decode code 1087 = .ok (.iconst 1, 1) := by decide +kernel
theorem d_Lw_law_1088 : decode code 1088 = .ok (.iadd, 1) := by decide +kernel
theorem d_Lw_law_1089 : decode code 1089 = .ok (.iaload, 1) := by decide +kernel
theorem d_Lw_law_1090 : decode code 1090 = .ok (.invokevirtual 127, 3) := by decide +kernel
theorem d_Lw_law_1093 : decode code 1093 = .ok (.if_icmp .eq 570, 3) := by decide +kernel
theorem d_Lw_law_1096 : decode code 1096 = .ok (.iconst 0, 1) := by decide +kernel
theorem d_Lw_law_1097 : decode code 1097 = .ok (.ireturn, 1) := by decide +kernel
theorem d_Lw_law_1098 : decode code 1098 = .ok (.aload_n 1, 1) := by decide +kernel
theorem d_Lw_law_1099 : decode code 1099 = .ok (.invokevirtual 128, 3) := by decide +kernel
theorem d_Lw_law_1102 : decode code 1102 = .ok (.aload_n 2, 1) := by decide +kernel
theorem d_Lw_law_1103 : decode code 1103 = .ok (.invokevirtual 131, 3) := by decide +kernel
theorem d_Lw_law_1106 : decode code 1106 = .ok (.if_icmp .eq 557, 3) := by decide +kernel
theorem d_Lw_law_1109 : decode code 1109 = .ok (.iconst 0, 1) := by decide +kernel
theorem d_Lw_law_1110 : decode code 1110 = .ok (.ireturn, 1) := by decide +kernel
theorem d_Lw_law_1111 : decode code 1111 = .ok (.aload_n 1, 1) := by decide +kernel
theorem d_Lw_law_1112 : decode code 1112 = .ok (.aload_n 0, 1) := by decide +kernel
theorem d_Lw_law_1113 : decode code 1113 = .ok (.iload 4, 2) := by decide +kernel
theorem d_Lw_law_1115 : decode code 1115 = .ok (.iconst 1, 1) := by decide +kernel
theorem d_Lw_law_1116 : decode code 1116 = .ok (.iadd, 1) := by decide +kernel
theorem d_Lw_law_1117 : decode code 1117 = .ok (.iaload, 1) := by decide +kernel
theorem d_Lw_law_1118 : decode code 1118 = .ok (.aload_n 0, 1) := by decide +kernel
theorem d_Lw_law_1119 : decode code 1119 = .ok (.iload 4, 2) := by decide +kernel
theorem d_Lw_law_1121 : decode code 1121 = .ok (.iconst 2, 1) := by decide +kernel
theorem d_Lw_law_1122 : decode code 1122 = .ok (.iadd, 1) := by decide +kernel
theorem d_Lw_law_1123 : decode code 1123 = .ok (.iaload, 1) := by decide +kernel
theorem d_Lw_law_1124 : decode code 1124 = .ok (.invokevirtual 132, 3) := by decide +kernel
theorem d_Lw_law_1127 : decode code 1127 = .ok (.aload_n 2, 1) := by decide +kernel
theorem d_Lw_law_1128 : decode code 1128 = .ok (.aload_n 0, 1) := by decide +kernel
theorem d_Lw_law_1129 : decode code 1129 = .ok (.iload 4, 2) := by decide +kernel
theorem d_Lw_law_1131 : decode code 1131 = .ok (.iconst 1, 1) := by decide +kernel
theorem d_Lw_law_1132 : decode code 1132 = .ok (.iadd, 1) := by decide +kernel
theorem d_Lw_law_1133 : decode code 1133 = .ok (.iaload, 1) := by decide +kernel
theorem d_Lw_law_1134 : decode code 1134 = .ok (.aload_n 0, 1) := by decide +kernel
theorem d_Lw_law_1135 : decode code 1135 = .ok (.iload 4, 2) := by decide +kernel
theorem d_Lw_law_1137 : decode code 1137 = .ok (.iconst 2, 1) := by decide +kernel
theorem d_Lw_law_1138 : decode code 1138 = .ok (.iadd, 1) := by decide +kernel
theorem d_Lw_law_1139 : decode code 1139 = .ok (.iaload, 1) := by decide +kernel
theorem d_Lw_law_1140 : decode code 1140 = .ok (.invokevirtual 135, 3) := by decide +kernel
theorem d_Lw_law_1143 : decode code 1143 = .ok (.if_icmp .eq 520, 3) := by decide +kernel
theorem d_Lw_law_1146 : decode code 1146 = .ok (.iconst 0, 1) := by decide +kernel
theorem d_Lw_law_1147 : decode code 1147 = .ok (.ireturn, 1) := by decide +kernel
theorem d_Lw_law_1148 : decode code 1148 = .ok (.aload_n 1, 1) := by decide +kernel
theorem d_Lw_law_1149 : decode code 1149 = .ok (.aload_n 0, 1) := by decide +kernel
theorem d_Lw_law_1150 : decode code 1150 = .ok (.iload 4, 2) := by decide +kernel
theorem d_Lw_law_1152 : decode code 1152 = .ok (.iconst 1, 1) := by decide +kernel
theorem d_Lw_law_1153 : decode code 1153 = .ok (.iadd, 1) := by decide +kernel
theorem d_Lw_law_1154 : decode code 1154 = .ok (.iaload, 1) := by decide +kernel
theorem d_Lw_law_1155 : decode code 1155 = .ok (.invokevirtual 136, 3) := by decide +kernel
theorem d_Lw_law_1158 : decode code 1158 = .ok (.aload_n 2, 1) := by decide +kernel
theorem d_Lw_law_1159 : decode code 1159 = .ok (.aload_n 0, 1) := by decide +kernel
theorem d_Lw_law_1160 : decode code 1160 = .ok (.iload 4, 2) := by decide +kernel
theorem d_Lw_law_1162 : decode code 1162 = .ok (.iconst 1, 1) := by decide +kernel
theorem d_Lw_law_1163 : decode code 1163 = .ok (.iadd, 1) := by decide +kernel
theorem d_Lw_law_1164 : decode code 1164 = .ok (.iaload, 1) := by decide +kernel
theorem d_Lw_law_1165 : decode code 1165 = .ok (.invokevirtual 139, 3) := by decide +kernel
theorem d_Lw_law_1168 : decode code 1168 = .ok (.if_icmp .eq 495, 3) := by decide +kernel
theorem d_Lw_law_1171 : decode code 1171 = .ok (.iconst 0, 1) := by decide +kernel
theorem d_Lw_law_1172 : decode code 1172 = .ok (.ireturn, 1) := by decide +kernel
theorem d_Lw_law_1173 : decode code 1173 = .ok (.aload_n 1, 1) := by decide +kernel
theorem d_Lw_law_1174 : decode code 1174 = .ok (.aload_n 0, 1) := by decide +kernel
theorem d_Lw_law_1175 : decode code 1175 = .ok (.iload 4, 2) := by decide +kernel
theorem d_Lw_law_1177 : decode code 1177 = .ok (.iconst 1, 1) := by decide +kernel
theorem d_Lw_law_1178 : decode code 1178 = .ok (.iadd, 1) := by decide +kernel
theorem d_Lw_law_1179 : decode code 1179 = .ok (.iaload, 1) := by decide +kernel
theorem d_Lw_law_1180 : decode code 1180 = .ok (.invokevirtual 140, 3) := by decide +kernel
theorem d_Lw_law_1183 : decode code 1183 = .ok (.aload_n 2, 1) := by decide +kernel
theorem d_Lw_law_1184 : decode code 1184 = .ok (.aload_n 0, 1) := by decide +kernel
theorem d_Lw_law_1185 : decode code 1185 = .ok (.iload 4, 2) := by decide +kernel
theorem d_Lw_law_1187 : decode code 1187 = .ok (.iconst 1, 1) := by decide +kernel
theorem d_Lw_law_1188 : decode code 1188 = .ok (.iadd, 1) := by decide +kernel
theorem d_Lw_law_1189 : decode code 1189 = .ok (.iaload, 1) := by decide +kernel
theorem d_Lw_law_1190 : decode code 1190 = .ok (.invokevirtual 143, 3) := by decide +kernel
theorem d_Lw_law_1193 : decode code 1193 = .ok (.if_icmp .eq 470, 3) := by decide +kernel
theorem d_Lw_law_1196 : decode code 1196 = .ok (.iconst 0, 1) := by decide +kernel
theorem d_Lw_law_1197 : decode code 1197 = .ok (.ireturn, 1) := by decide +kernel
theorem d_Lw_law_1198 : decode code 1198 = .ok (.aload_n 1, 1) := by decide +kernel
theorem d_Lw_law_1199 : decode code 1199 = .ok (.aload_n 0, 1) := by decide +kernel
theorem d_Lw_law_1200 : decode code 1200 = .ok (.iload 4, 2) := by decide +kernel
theorem d_Lw_law_1202 : decode code 1202 = .ok (.iconst 1, 1) := by decide +kernel
theorem d_Lw_law_1203 : decode code 1203 = .ok (.iadd, 1) := by decide +kernel
theorem d_Lw_law_1204 : decode code 1204 = .ok (.iaload, 1) := by decide +kernel
theorem d_Lw_law_1205 : decode code 1205 = .ok (.aload_n 0, 1) := by decide +kernel
theorem d_Lw_law_1206 : decode code 1206 = .ok (.iload 4, 2) := by decide +kernel
theorem d_Lw_law_1208 : decode code 1208 = .ok (.iconst 2, 1) := by decide +kernel
theorem d_Lw_law_1209 : decode code 1209 = .ok (.iadd, 1) := by decide +kernel
theorem d_Lw_law_1210 : decode code 1210 = .ok (.iaload, 1) := by decide +kernel
theorem d_Lw_law_1211 : decode code 1211 = .ok (.aload_n 0, 1) := by decide +kernel
theorem d_Lw_law_1212 : decode code 1212 = .ok (.iload 4, 2) := by decide +kernel
theorem d_Lw_law_1214 : decode code 1214 = .ok (.iconst 3, 1) := by decide +kernel
theorem d_Lw_law_1215 : decode code 1215 = .ok (.iadd, 1) := by decide +kernel
theorem d_Lw_law_1216 : decode code 1216 = .ok (.iaload, 1) := by decide +kernel
theorem d_Lw_law_1217 : decode code 1217 = .ok (.invokevirtual 144, 3) := by decide +kernel
theorem d_Lw_law_1220 : decode code 1220 = .ok (.aload_n 2, 1) := by decide +kernel
theorem d_Lw_law_1221 : decode code 1221 = .ok (.aload_n 0, 1) := by decide +kernel
theorem d_Lw_law_1222 : decode code 1222 = .ok (.iload 4, 2) := by decide +kernel
theorem d_Lw_law_1224 : decode code 1224 = .ok (.iconst 1, 1) := by decide +kernel
theorem d_Lw_law_1225 : decode code 1225 = .ok (.iadd, 1) := by decide +kernel
theorem d_Lw_law_1226 : decode code 1226 = .ok (.iaload, 1) := by decide +kernel
theorem d_Lw_law_1227 : decode code 1227 = .ok (.aload_n 0, 1) := by decide +kernel
theorem d_Lw_law_1228 : decode code 1228 = .ok (.iload 4, 2) := by decide +kernel
theorem d_Lw_law_1230 : decode code 1230 = .ok (.iconst 2, 1) := by decide +kernel
theorem d_Lw_law_1231 : decode code 1231 = .ok (.iadd, 1) := by decide +kernel
theorem d_Lw_law_1232 : decode code 1232 = .ok (.iaload, 1) := by decide +kernel
theorem d_Lw_law_1233 : decode code 1233 = .ok (.aload_n 0, 1) := by decide +kernel
theorem d_Lw_law_1234 : decode code 1234 = .ok (.iload 4, 2) := by decide +kernel
theorem d_Lw_law_1236 : decode code 1236 = .ok (.iconst 3, 1) := by decide +kernel
theorem d_Lw_law_1237 : decode code 1237 = .ok (.iadd, 1) := by decide +kernel
theorem d_Lw_law_1238 : decode code 1238 = .ok (.iaload, 1) := by decide +kernel
theorem d_Lw_law_1239 : decode code 1239 = .ok (.invokevirtual 147, 3) := by decide +kernel
theorem d_Lw_law_1242 : decode code 1242 = .ok (.if_icmp .eq 421, 3) := by decide +kernel
theorem d_Lw_law_1245 : decode code 1245 = .ok (.iconst 0, 1) := by decide +kernel
theorem d_Lw_law_1246 : decode code 1246 = .ok (.ireturn, 1) := by decide +kernel
theorem d_Lw_law_1247 : decode code 1247 = .ok (.aload_n 1, 1) := by decide +kernel
theorem d_Lw_law_1248 : decode code 1248 = .ok (.aload_n 0, 1) := by decide +kernel
theorem d_Lw_law_1249 : decode code 1249 = .ok (.iload 4, 2) := by decide +kernel
theorem d_Lw_law_1251 : decode code 1251 = .ok (.iconst 1, 1) := by decide +kernel
theorem d_Lw_law_1252 : decode code 1252 = .ok (.iadd, 1) := by decide +kernel
theorem d_Lw_law_1253 : decode code 1253 = .ok (.iaload, 1) := by decide +kernel
theorem d_Lw_law_1254 : decode code 1254 = .ok (.aload_n 0, 1) := by decide +kernel
theorem d_Lw_law_1255 : decode code 1255 = .ok (.iload 4, 2) := by decide +kernel
theorem d_Lw_law_1257 : decode code 1257 = .ok (.iconst 2, 1) := by decide +kernel
theorem d_Lw_law_1258 : decode code 1258 = .ok (.iadd, 1) := by decide +kernel
theorem d_Lw_law_1259 : decode code 1259 = .ok (.iaload, 1) := by decide +kernel
theorem d_Lw_law_1260 : decode code 1260 = .ok (.invokevirtual 148, 3) := by decide +kernel
theorem d_Lw_law_1263 : decode code 1263 = .ok (.aload_n 2, 1) := by decide +kernel
theorem d_Lw_law_1264 : decode code 1264 = .ok (.aload_n 0, 1) := by decide +kernel
theorem d_Lw_law_1265 : decode code 1265 = .ok (.iload 4, 2) := by decide +kernel
theorem d_Lw_law_1267 : decode code 1267 = .ok (.iconst 1, 1) := by decide +kernel
theorem d_Lw_law_1268 : decode code 1268 = .ok (.iadd, 1) := by decide +kernel
theorem d_Lw_law_1269 : decode code 1269 = .ok (.iaload, 1) := by decide +kernel
theorem d_Lw_law_1270 : decode code 1270 = .ok (.aload_n 0, 1) := by decide +kernel
theorem d_Lw_law_1271 : decode code 1271 = .ok (.iload 4, 2) := by decide +kernel
theorem d_Lw_law_1273 : decode code 1273 = .ok (.iconst 2, 1) := by decide +kernel
theorem d_Lw_law_1274 : decode code 1274 = .ok (.iadd, 1) := by decide +kernel
theorem d_Lw_law_1275 : decode code 1275 = .ok (.iaload, 1) := by decide +kernel
theorem d_Lw_law_1276 : decode code 1276 = .ok (.invokevirtual 151, 3) := by decide +kernel
theorem d_Lw_law_1279 : decode code 1279 = .ok (.if_icmp .eq 384, 3) := by decide +kernel
theorem d_Lw_law_1282 : decode code 1282 = .ok (.iconst 0, 1) := by decide +kernel
theorem d_Lw_law_1283 : decode code 1283 = .ok (.ireturn, 1) := by decide +kernel
theorem d_Lw_law_1284 : decode code 1284 = .ok (.aload_n 1, 1) := by decide +kernel
theorem d_Lw_law_1285 : decode code 1285 = .ok (.aload_n 0, 1) := by decide +kernel
theorem d_Lw_law_1286 : decode code 1286 = .ok (.iload 4, 2) := by decide +kernel
theorem d_Lw_law_1288 : decode code 1288 = .ok (.iconst 1, 1) := by decide +kernel
theorem d_Lw_law_1289 : decode code 1289 = .ok (.iadd, 1) := by decide +kernel
theorem d_Lw_law_1290 : decode code 1290 = .ok (.iaload, 1) := by decide +kernel
theorem d_Lw_law_1291 : decode code 1291 = .ok (.aload_n 0, 1) := by decide +kernel
theorem d_Lw_law_1292 : decode code 1292 = .ok (.iload 4, 2) := by decide +kernel
theorem d_Lw_law_1294 : decode code 1294 = .ok (.iconst 2, 1) := by decide +kernel
theorem d_Lw_law_1295 : decode code 1295 = .ok (.iadd, 1) := by decide +kernel
theorem d_Lw_law_1296 : decode code 1296 = .ok (.iaload, 1) := by decide +kernel
theorem d_Lw_law_1297 : decode code 1297 = .ok (.ifCond .eq 7, 3) := by decide +kernel
theorem d_Lw_law_1300 : decode code 1300 = .ok (.iconst 1, 1) := by decide +kernel
theorem d_Lw_law_1301 : decode code 1301 = .ok (.goto 4, 3) := by decide +kernel
theorem d_Lw_law_1304 : decode code 1304 = .ok (.iconst 0, 1) := by decide +kernel
theorem d_Lw_law_1305 : decode code 1305 = .ok (.aload_n 0, 1) := by decide +kernel
theorem d_Lw_law_1306 : decode code 1306 = .ok (.iload 4, 2) := by decide +kernel
theorem d_Lw_law_1308 : decode code 1308 = .ok (.iconst 3, 1) := by decide +kernel
theorem d_Lw_law_1309 : decode code 1309 = .ok (.iadd, 1) := by decide +kernel
theorem d_Lw_law_1310 : decode code 1310 = .ok (.iaload, 1) := by decide +kernel
theorem d_Lw_law_1311 : decode code 1311 = .ok (.invokevirtual 152, 3) := by decide +kernel
theorem d_Lw_law_1314 : decode code 1314 = .ok (.aload_n 2, 1) := by decide +kernel
theorem d_Lw_law_1315 : decode code 1315 = .ok (.aload_n 0, 1) := by decide +kernel
theorem d_Lw_law_1316 : decode code 1316 = .ok (.iload 4, 2) := by decide +kernel
theorem d_Lw_law_1318 : decode code 1318 = .ok (.iconst 1, 1) := by decide +kernel
theorem d_Lw_law_1319 : decode code 1319 = .ok (.iadd, 1) := by decide +kernel
theorem d_Lw_law_1320 : decode code 1320 = .ok (.iaload, 1) := by decide +kernel
theorem d_Lw_law_1321 : decode code 1321 = .ok (.aload_n 0, 1) := by decide +kernel
theorem d_Lw_law_1322 : decode code 1322 = .ok (.iload 4, 2) := by decide +kernel
theorem d_Lw_law_1324 : decode code 1324 = .ok (.iconst 2, 1) := by decide +kernel
theorem d_Lw_law_1325 : decode code 1325 = .ok (.iadd, 1) := by decide +kernel
theorem d_Lw_law_1326 : decode code 1326 = .ok (.iaload, 1) := by decide +kernel
theorem d_Lw_law_1327 : decode code 1327 = .ok (.ifCond .eq 7, 3) := by decide +kernel
theorem d_Lw_law_1330 : decode code 1330 = .ok (.iconst 1, 1) := by decide +kernel
theorem d_Lw_law_1331 : decode code 1331 = .ok (.goto 4, 3) := by decide +kernel
theorem d_Lw_law_1334 : decode code 1334 = .ok (.iconst 0, 1) := by decide +kernel
theorem d_Lw_law_1335 : decode code 1335 = .ok (.aload_n 0, 1) := by decide +kernel
theorem d_Lw_law_1336 : decode code 1336 = .ok (.iload 4, 2) := by decide +kernel
theorem d_Lw_law_1338 : decode code 1338 = .ok (.iconst 3, 1) := by decide +kernel
theorem d_Lw_law_1339 : decode code 1339 = .ok (.iadd, 1) := by decide +kernel
theorem d_Lw_law_1340 : decode code 1340 = .ok (.iaload, 1) := by decide +kernel
theorem d_Lw_law_1341 : decode code 1341 = .ok (.invokevirtual 156, 3) := by decide +kernel
theorem d_Lw_law_1344 : decode code 1344 = .ok (.if_icmp .eq 319, 3) := by decide +kernel
theorem d_Lw_law_1347 : decode code 1347 = .ok (.iconst 0, 1) := by decide +kernel
theorem d_Lw_law_1348 : decode code 1348 = .ok (.ireturn, 1) := by decide +kernel
theorem d_Lw_law_1349 : decode code 1349 = .ok (.aload_n 1, 1) := by decide +kernel
theorem d_Lw_law_1350 : decode code 1350 = .ok (.aload_n 0, 1) := by decide +kernel
theorem d_Lw_law_1351 : decode code 1351 = .ok (.iload 4, 2) := by decide +kernel
theorem d_Lw_law_1353 : decode code 1353 = .ok (.iconst 1, 1) := by decide +kernel
theorem d_Lw_law_1354 : decode code 1354 = .ok (.iadd, 1) := by decide +kernel
theorem d_Lw_law_1355 : decode code 1355 = .ok (.iaload, 1) := by decide +kernel
theorem d_Lw_law_1356 : decode code 1356 = .ok (.aload_n 0, 1) := by decide +kernel
theorem d_Lw_law_1357 : decode code 1357 = .ok (.iload 4, 2) := by decide +kernel
theorem d_Lw_law_1359 : decode code 1359 = .ok (.iconst 2, 1) := by decide +kernel
theorem d_Lw_law_1360 : decode code 1360 = .ok (.iadd, 1) := by decide +kernel
theorem d_Lw_law_1361 : decode code 1361 = .ok (.iaload, 1) := by decide +kernel
theorem d_Lw_law_1362 : decode code 1362 = .ok (.invokevirtual 157, 3) := by decide +kernel
theorem d_Lw_law_1365 : decode code 1365 = .ok (.aload_n 2, 1) := by decide +kernel
theorem d_Lw_law_1366 : decode code 1366 = .ok (.aload_n 0, 1) := by decide +kernel
theorem d_Lw_law_1367 : decode code 1367 = .ok (.iload 4, 2) := by decide +kernel
theorem d_Lw_law_1369 : decode code 1369 = .ok (.iconst 1, 1) := by decide +kernel
theorem d_Lw_law_1370 : decode code 1370 = .ok (.iadd, 1) := by decide +kernel
theorem d_Lw_law_1371 : decode code 1371 = .ok (.iaload, 1) := by decide +kernel
theorem d_Lw_law_1372 : decode code 1372 = .ok (.aload_n 0, 1) := by decide +kernel
theorem d_Lw_law_1373 : decode code 1373 = .ok (.iload 4, 2) := by decide +kernel
theorem d_Lw_law_1375 : decode code 1375 = .ok (.iconst 2, 1) := by decide +kernel
theorem d_Lw_law_1376 : decode code 1376 = .ok (.iadd, 1) := by decide +kernel
theorem d_Lw_law_1377 : decode code 1377 = .ok (.iaload, 1) := by decide +kernel
theorem d_Lw_law_1378 : decode code 1378 = .ok (.invokevirtual 160, 3) := by decide +kernel
theorem d_Lw_law_1381 : decode code 1381 = .ok (.if_icmp .eq 282, 3) := by decide +kernel
theorem d_Lw_law_1384 : decode code 1384 = .ok (.iconst 0, 1) := by decide +kernel
theorem d_Lw_law_1385 : decode code 1385 = .ok (.ireturn, 1) := by decide +kernel
theorem d_Lw_law_1386 : decode code 1386 = .ok (.aload_n 1, 1) := by decide +kernel
theorem d_Lw_law_1387 : decode code 1387 = .ok (.aload_n 0, 1) := by decide +kernel
theorem d_Lw_law_1388 : decode code 1388 = .ok (.iload 4, 2) := by decide +kernel
theorem d_Lw_law_1390 : decode code 1390 = .ok (.iconst 1, 1) := by decide +kernel
theorem d_Lw_law_1391 : decode code 1391 = .ok (.iadd, 1) := by decide +kernel
theorem d_Lw_law_1392 : decode code 1392 = .ok (.iaload, 1) := by decide +kernel
theorem d_Lw_law_1393 : decode code 1393 = .ok (.invokevirtual 161, 3) := by decide +kernel
theorem d_Lw_law_1396 : decode code 1396 = .ok (.aload_n 2, 1) := by decide +kernel
theorem d_Lw_law_1397 : decode code 1397 = .ok (.aload_n 0, 1) := by decide +kernel
theorem d_Lw_law_1398 : decode code 1398 = .ok (.iload 4, 2) := by decide +kernel
theorem d_Lw_law_1400 : decode code 1400 = .ok (.iconst 1, 1) := by decide +kernel
theorem d_Lw_law_1401 : decode code 1401 = .ok (.iadd, 1) := by decide +kernel
theorem d_Lw_law_1402 : decode code 1402 = .ok (.iaload, 1) := by decide +kernel
theorem d_Lw_law_1403 : decode code 1403 = .ok (.invokevirtual 164, 3) := by decide +kernel
theorem d_Lw_law_1406 : decode code 1406 = .ok (.if_icmp .eq 257, 3) := by decide +kernel
theorem d_Lw_law_1409 : decode code 1409 = .ok (.iconst 0, 1) := by decide +kernel
theorem d_Lw_law_1410 : decode code 1410 = .ok (.ireturn, 1) := by decide +kernel
theorem d_Lw_law_1411 : decode code 1411 = .ok (.aload_n 1, 1) := by decide +kernel
theorem d_Lw_law_1412 : decode code 1412 = .ok (.aload_n 0, 1) := by decide +kernel
theorem d_Lw_law_1413 : decode code 1413 = .ok (.iload 4, 2) := by decide +kernel
theorem d_Lw_law_1415 : decode code 1415 = .ok (.iconst 1, 1) := by decide +kernel
theorem d_Lw_law_1416 : decode code 1416 = .ok (.iadd, 1) := by decide +kernel
theorem d_Lw_law_1417 : decode code 1417 = .ok (.iaload, 1) := by decide +kernel
theorem d_Lw_law_1418 : decode code 1418 = .ok (.aload_n 0, 1) := by decide +kernel
theorem d_Lw_law_1419 : decode code 1419 = .ok (.iload 4, 2) := by decide +kernel
theorem d_Lw_law_1421 : decode code 1421 = .ok (.iconst 2, 1) := by decide +kernel
theorem d_Lw_law_1422 : decode code 1422 = .ok (.iadd, 1) := by decide +kernel
theorem d_Lw_law_1423 : decode code 1423 = .ok (.iaload, 1) := by decide +kernel
theorem d_Lw_law_1424 : decode code 1424 = .ok (.invokevirtual 165, 3) := by decide +kernel
theorem d_Lw_law_1427 : decode code 1427 = .ok (.aload_n 2, 1) := by decide +kernel
theorem d_Lw_law_1428 : decode code 1428 = .ok (.aload_n 0, 1) := by decide +kernel
theorem d_Lw_law_1429 : decode code 1429 = .ok (.iload 4, 2) := by decide +kernel
theorem d_Lw_law_1431 : decode code 1431 = .ok (.iconst 1, 1) := by decide +kernel
theorem d_Lw_law_1432 : decode code 1432 = .ok (.iadd, 1) := by decide +kernel
theorem d_Lw_law_1433 : decode code 1433 = .ok (.iaload, 1) := by decide +kernel
theorem d_Lw_law_1434 : decode code 1434 = .ok (.aload_n 0, 1) := by decide +kernel
theorem d_Lw_law_1435 : decode code 1435 = .ok (.iload 4, 2) := by decide +kernel
theorem d_Lw_law_1437 : decode code 1437 = .ok (.iconst 2, 1) := by decide +kernel
theorem d_Lw_law_1438 : decode code 1438 = .ok (.iadd, 1) := by decide +kernel
theorem d_Lw_law_1439 : decode code 1439 = .ok (.iaload, 1) := by decide +kernel
theorem d_Lw_law_1440 : decode code 1440 = .ok (.invokevirtual 168, 3) := by decide +kernel
theorem d_Lw_law_1443 : decode code 1443 = .ok (.if_icmp .eq 220, 3) := by decide +kernel
theorem d_Lw_law_1446 : decode code 1446 = .ok (.iconst 0, 1) := by decide +kernel
theorem d_Lw_law_1447 : decode code 1447 = .ok (.ireturn, 1) := by decide +kernel
theorem d_Lw_law_1448 : decode code 1448 = .ok (.aload_n 1, 1) := by decide +kernel
theorem d_Lw_law_1449 : decode code 1449 = .ok (.aload_n 0, 1) := by decide +kernel
theorem d_Lw_law_1450 : decode code 1450 = .ok (.iload 4, 2) := by decide +kernel
theorem d_Lw_law_1452 : decode code 1452 = .ok (.iconst 1, 1) := by decide +kernel
theorem d_Lw_law_1453 : decode code 1453 = .ok (.iadd, 1) := by decide +kernel
theorem d_Lw_law_1454 : decode code 1454 = .ok (.iaload, 1) := by decide +kernel
theorem d_Lw_law_1455 : decode code 1455 = .ok (.invokevirtual 169, 3) := by decide +kernel
theorem d_Lw_law_1458 : decode code 1458 = .ok (.aload_n 2, 1) := by decide +kernel
theorem d_Lw_law_1459 : decode code 1459 = .ok (.aload_n 0, 1) := by decide +kernel
theorem d_Lw_law_1460 : decode code 1460 = .ok (.iload 4, 2) := by decide +kernel
theorem d_Lw_law_1462 : decode code 1462 = .ok (.iconst 1, 1) := by decide +kernel
theorem d_Lw_law_1463 : decode code 1463 = .ok (.iadd, 1) := by decide +kernel
theorem d_Lw_law_1464 : decode code 1464 = .ok (.iaload, 1) := by decide +kernel
theorem d_Lw_law_1465 : decode code 1465 = .ok (.invokevirtual 172, 3) := by decide +kernel
theorem d_Lw_law_1468 : decode code 1468 = .ok (.if_icmp .eq 195, 3) := by decide +kernel
theorem d_Lw_law_1471 : decode code 1471 = .ok (.iconst 0, 1) := by decide +kernel
theorem d_Lw_law_1472 : decode code 1472 = .ok (.ireturn, 1) := by decide +kernel
theorem d_Lw_law_1473 : decode code 1473 = .ok (.aload_n 1, 1) := by decide +kernel
theorem d_Lw_law_1474 : decode code 1474 = .ok (.invokevirtual 173, 3) := by decide +kernel
theorem d_Lw_law_1477 : decode code 1477 = .ok (.aload_n 2, 1) := by decide +kernel
theorem d_Lw_law_1478 : decode code 1478 = .ok (.invokevirtual 177, 3) := by decide +kernel
theorem d_Lw_law_1481 : decode code 1481 = .ok (.if_icmp .eq 182, 3) := by decide +kernel
theorem d_Lw_law_1484 : decode code 1484 = .ok (.iconst 0, 1) := by decide +kernel
theorem d_Lw_law_1485 : decode code 1485 = .ok (.ireturn, 1) := by decide +kernel
theorem d_Lw_law_1486 : decode code 1486 = .ok (.aload_n 1, 1) := by decide +kernel
theorem d_Lw_law_1487 : decode code 1487 = .ok (.aload_n 0, 1) := by decide +kernel
theorem d_Lw_law_1488 : decode code 1488 = .ok (.iload 4, 2) := by decide +kernel
theorem d_Lw_law_1490 : decode code 1490 = .ok (.iconst 1, 1) := by decide +kernel
theorem d_Lw_law_1491 : decode code 1491 = .ok (.iadd, 1) := by decide +kernel
theorem d_Lw_law_1492 : decode code 1492 = .ok (.iaload, 1) := by decide +kernel
theorem d_Lw_law_1493 : decode code 1493 = .ok (.invokevirtual 178, 3) := by decide +kernel
theorem d_Lw_law_1496 : decode code 1496 = .ok (.aload_n 2, 1) := by decide +kernel
theorem d_Lw_law_1497 : decode code 1497 = .ok (.aload_n 0, 1) := by decide +kernel
theorem d_Lw_law_1498 : decode code 1498 = .ok (.iload 4, 2) := by decide +kernel
theorem d_Lw_law_1500 : decode code 1500 = .ok (.iconst 1, 1) := by decide +kernel
theorem d_Lw_law_1501 : decode code 1501 = .ok (.iadd, 1) := by decide +kernel
theorem d_Lw_law_1502 : decode code 1502 = .ok (.iaload, 1) := by decide +kernel
theorem d_Lw_law_1503 : decode code 1503 = .ok (.invokevirtual 181, 3) := by decide +kernel
theorem d_Lw_law_1506 : decode code 1506 = .ok (.if_icmp .eq 157, 3) := by decide +kernel
theorem d_Lw_law_1509 : decode code 1509 = .ok (.iconst 0, 1) := by decide +kernel
theorem d_Lw_law_1510 : decode code 1510 = .ok (.ireturn, 1) := by decide +kernel
theorem d_Lw_law_1511 : decode code 1511 = .ok (.aload_n 1, 1) := by decide +kernel
theorem d_Lw_law_1512 : decode code 1512 = .ok (.aload_n 0, 1) := by decide +kernel
theorem d_Lw_law_1513 : decode code 1513 = .ok (.iload 4, 2) := by decide +kernel
theorem d_Lw_law_1515 : decode code 1515 = .ok (.iconst 1, 1) := by decide +kernel
theorem d_Lw_law_1516 : decode code 1516 = .ok (.iadd, 1) := by decide +kernel
theorem d_Lw_law_1517 : decode code 1517 = .ok (.iaload, 1) := by decide +kernel
theorem d_Lw_law_1518 : decode code 1518 = .ok (.aload_n 0, 1) := by decide +kernel
theorem d_Lw_law_1519 : decode code 1519 = .ok (.iload 4, 2) := by decide +kernel
theorem d_Lw_law_1521 : decode code 1521 = .ok (.iconst 2, 1) := by decide +kernel
theorem d_Lw_law_1522 : decode code 1522 = .ok (.iadd, 1) := by decide +kernel
theorem d_Lw_law_1523 : decode code 1523 = .ok (.iaload, 1) := by decide +kernel
theorem d_Lw_law_1524 : decode code 1524 = .ok (.invokevirtual 182, 3) := by decide +kernel
theorem d_Lw_law_1527 : decode code 1527 = .ok (.aload_n 2, 1) := by decide +kernel
theorem d_Lw_law_1528 : decode code 1528 = .ok (.aload_n 0, 1) := by decide +kernel
theorem d_Lw_law_1529 : decode code 1529 = .ok (.iload 4, 2) := by decide +kernel
theorem d_Lw_law_1531 : decode code 1531 = .ok (.iconst 1, 1) := by decide +kernel
theorem d_Lw_law_1532 : decode code 1532 = .ok (.iadd, 1) := by decide +kernel
theorem d_Lw_law_1533 : decode code 1533 = .ok (.iaload, 1) := by decide +kernel
theorem d_Lw_law_1534 : decode code 1534 = .ok (.aload_n 0, 1) := by decide +kernel
theorem d_Lw_law_1535 : decode code 1535 = .ok (.iload 4, 2) := by decide +kernel
theorem d_Lw_law_1537 : decode code 1537 = .ok (.iconst 2, 1) := by decide +kernel
theorem d_Lw_law_1538 : decode code 1538 = .ok (.iadd, 1) := by decide +kernel
theorem d_Lw_law_1539 : decode code 1539 = .ok (.iaload, 1) := by decide +kernel
theorem d_Lw_law_1540 : decode code 1540 = .ok (.invokevirtual 185, 3) := by decide +kernel
theorem d_Lw_law_1543 : decode code 1543 = .ok (.if_icmp .eq 120, 3) := by decide +kernel
theorem d_Lw_law_1546 : decode code 1546 = .ok (.iconst 0, 1) := by decide +kernel
theorem d_Lw_law_1547 : decode code 1547 = .ok (.ireturn, 1) := by decide +kernel
theorem d_Lw_law_1548 : decode code 1548 = .ok (.aload_n 1, 1) := by decide +kernel
theorem d_Lw_law_1549 : decode code 1549 = .ok (.aload_n 0, 1) := by decide +kernel
theorem d_Lw_law_1550 : decode code 1550 = .ok (.iload 4, 2) := by decide +kernel
theorem d_Lw_law_1552 : decode code 1552 = .ok (.iconst 1, 1) := by decide +kernel
theorem d_Lw_law_1553 : decode code 1553 = .ok (.iadd, 1) := by decide +kernel
theorem d_Lw_law_1554 : decode code 1554 = .ok (.iaload, 1) := by decide +kernel
theorem d_Lw_law_1555 : decode code 1555 = .ok (.aload_n 0, 1) := by decide +kernel
theorem d_Lw_law_1556 : decode code 1556 = .ok (.iload 4, 2) := by decide +kernel
theorem d_Lw_law_1558 : decode code 1558 = .ok (.iconst 2, 1) := by decide +kernel
theorem d_Lw_law_1559 : decode code 1559 = .ok (.iadd, 1) := by decide +kernel
theorem d_Lw_law_1560 : decode code 1560 = .ok (.iaload, 1) := by decide +kernel
theorem d_Lw_law_1561 : decode code 1561 = .ok (.invokevirtual 186, 3) := by decide +kernel
theorem d_Lw_law_1564 : decode code 1564 = .ok (.aload_n 2, 1) := by decide +kernel
theorem d_Lw_law_1565 : decode code 1565 = .ok (.aload_n 0, 1) := by decide +kernel
theorem d_Lw_law_1566 : decode code 1566 = .ok (.iload 4, 2) := by decide +kernel
theorem d_Lw_law_1568 : decode code 1568 = .ok (.iconst 1, 1) := by decide +kernel
theorem d_Lw_law_1569 : decode code 1569 = .ok (.iadd, 1) := by decide +kernel
theorem d_Lw_law_1570 : decode code 1570 = .ok (.iaload, 1) := by decide +kernel
theorem d_Lw_law_1571 : decode code 1571 = .ok (.aload_n 0, 1) := by decide +kernel
theorem d_Lw_law_1572 : decode code 1572 = .ok (.iload 4, 2) := by decide +kernel
theorem d_Lw_law_1574 : decode code 1574 = .ok (.iconst 2, 1) := by decide +kernel
theorem d_Lw_law_1575 : decode code 1575 = .ok (.iadd, 1) := by decide +kernel
theorem d_Lw_law_1576 : decode code 1576 = .ok (.iaload, 1) := by decide +kernel
theorem d_Lw_law_1577 : decode code 1577 = .ok (.invokevirtual 189, 3) := by decide +kernel
theorem d_Lw_law_1580 : decode code 1580 = .ok (.if_icmp .eq 83, 3) := by decide +kernel
theorem d_Lw_law_1583 : decode code 1583 = .ok (.iconst 0, 1) := by decide +kernel
theorem d_Lw_law_1584 : decode code 1584 = .ok (.ireturn, 1) := by decide +kernel
theorem d_Lw_law_1585 : decode code 1585 = .ok (.aload_n 1, 1) := by decide +kernel
theorem d_Lw_law_1586 : decode code 1586 = .ok (.aload_n 0, 1) := by decide +kernel
theorem d_Lw_law_1587 : decode code 1587 = .ok (.iload 4, 2) := by decide +kernel
theorem d_Lw_law_1589 : decode code 1589 = .ok (.iconst 1, 1) := by decide +kernel
theorem d_Lw_law_1590 : decode code 1590 = .ok (.iadd, 1) := by decide +kernel
theorem d_Lw_law_1591 : decode code 1591 = .ok (.iaload, 1) := by decide +kernel
theorem d_Lw_law_1592 : decode code 1592 = .ok (.aload_n 0, 1) := by decide +kernel
theorem d_Lw_law_1593 : decode code 1593 = .ok (.iload 4, 2) := by decide +kernel
theorem d_Lw_law_1595 : decode code 1595 = .ok (.iconst 2, 1) := by decide +kernel
theorem d_Lw_law_1596 : decode code 1596 = .ok (.iadd, 1) := by decide +kernel
theorem d_Lw_law_1597 : decode code 1597 = .ok (.iaload, 1) := by decide +kernel
theorem d_Lw_law_1598 : decode code 1598 = .ok (.ifCond .eq 7, 3) := by decide +kernel
theorem d_Lw_law_1601 : decode code 1601 = .ok (.iconst 1, 1) := by decide +kernel
theorem d_Lw_law_1602 : decode code 1602 = .ok (.goto 4, 3) := by decide +kernel
theorem d_Lw_law_1605 : decode code 1605 = .ok (.iconst 0, 1) := by decide +kernel
theorem d_Lw_law_1606 : decode code 1606 = .ok (.invokevirtual 190, 3) := by decide +kernel
theorem d_Lw_law_1609 : decode code 1609 = .ok (.aload_n 2, 1) := by decide +kernel
theorem d_Lw_law_1610 : decode code 1610 = .ok (.aload_n 0, 1) := by decide +kernel
theorem d_Lw_law_1611 : decode code 1611 = .ok (.iload 4, 2) := by decide +kernel
theorem d_Lw_law_1613 : decode code 1613 = .ok (.iconst 1, 1) := by decide +kernel
theorem d_Lw_law_1614 : decode code 1614 = .ok (.iadd, 1) := by decide +kernel
theorem d_Lw_law_1615 : decode code 1615 = .ok (.iaload, 1) := by decide +kernel
theorem d_Lw_law_1616 : decode code 1616 = .ok (.aload_n 0, 1) := by decide +kernel
theorem d_Lw_law_1617 : decode code 1617 = .ok (.iload 4, 2) := by decide +kernel
theorem d_Lw_law_1619 : decode code 1619 = .ok (.iconst 2, 1) := by decide +kernel
theorem d_Lw_law_1620 : decode code 1620 = .ok (.iadd, 1) := by decide +kernel
theorem d_Lw_law_1621 : decode code 1621 = .ok (.iaload, 1) := by decide +kernel
theorem d_Lw_law_1622 : decode code 1622 = .ok (.ifCond .eq 7, 3) := by decide +kernel
theorem d_Lw_law_1625 : decode code 1625 = .ok (.iconst 1, 1) := by decide +kernel
theorem d_Lw_law_1626 : decode code 1626 = .ok (.goto 4, 3) := by decide +kernel
theorem d_Lw_law_1629 : decode code 1629 = .ok (.iconst 0, 1) := by decide +kernel
theorem d_Lw_law_1630 : decode code 1630 = .ok (.invokevirtual 194, 3) := by decide +kernel
theorem d_Lw_law_1633 : decode code 1633 = .ok (.if_icmp .eq 30, 3) := by decide +kernel
theorem d_Lw_law_1636 : decode code 1636 = .ok (.iconst 0, 1) := by decide +kernel
theorem d_Lw_law_1637 : decode code 1637 = .ok (.ireturn, 1) := by decide +kernel
theorem d_Lw_law_1638 : decode code 1638 = .ok (.aload_n 1, 1) := by decide +kernel
theorem d_Lw_law_1639 : decode code 1639 = .ok (.aload_n 0, 1) := by decide +kernel
theorem d_Lw_law_1640 : decode code 1640 = .ok (.iload 4, 2) := by decide +kernel
theorem d_Lw_law_1642 : decode code 1642 = .ok (.iconst 1, 1) := by decide +kernel
theorem d_Lw_law_1643 : decode code 1643 = .ok (.iadd, 1) := by decide +kernel
theorem d_Lw_law_1644 : decode code 1644 = .ok (.iaload, 1) := by decide +kernel
theorem d_Lw_law_1645 : decode code 1645 = .ok (.invokevirtual 195, 3) := by decide +kernel
theorem d_Lw_law_1648 : decode code 1648 = .ok (.aload_n 2, 1) := by decide +kernel
theorem d_Lw_law_1649 : decode code 1649 = .ok (.aload_n 0, 1) := by decide +kernel
theorem d_Lw_law_1650 : decode code 1650 = .ok (.iload 4, 2) := by decide +kernel
theorem d_Lw_law_1652 : decode code 1652 = .ok (.iconst 1, 1) := by decide +kernel
theorem d_Lw_law_1653 : decode code 1653 = .ok (.iadd, 1) := by decide +kernel
theorem d_Lw_law_1654 : decode code 1654 = .ok (.iaload, 1) := by decide +kernel
theorem d_Lw_law_1655 : decode code 1655 = .ok (.invokevirtual 198, 3) := by decide +kernel
theorem d_Lw_law_1658 : decode code 1658 = .ok (.if_icmp .eq 5, 3) := by decide +kernel
theorem d_Lw_law_1661 : decode code 1661 = .ok (.iconst 0, 1) := by decide +kernel
theorem d_Lw_law_1662 : decode code 1662 = .ok (.ireturn, 1) := by decide +kernel
theorem d_Lw_law_1663 : decode code 1663 = .ok (.iinc 4 7, 3) := by decide +kernel
theorem d_Lw_law_1666 : decode code 1666 = .ok (.goto (-1643), 3) := by decide +kernel
theorem d_Lw_law_1669 : decode code 1669 = .ok (.iconst 1, 1) := by decide +kernel
theorem d_Lw_law_1670 : decode code 1670 = .ok (.ireturn, 1) := by decide +kernel
abbrev S_Lw_law : Type := Nat × Nat × Nat × Nat × Int32 × Int32 × Nat × Int32 × Nat × Int32 × Int32 × AM
noncomputable def T_Lw_law_0 (L : Nat) (xs : Nat → Int32)  (σ : AM) : S_Lw_law ⊕ Option (Int32 × AM) :=
  letT (nw σ 11 12) fun σ1 => letT (aZ σ) fun x3 => gdT (okO σ1 x3 11) <| bndT (M_Bp_init x3 σ1) fun _ σ5 => letT (nw σ5 12 76) fun σ7 => letT (aZ σ5) fun x9 => gdT (okO σ7 x9 12) <| bndT (M_Md_init x9 σ7) fun _ σ11 => letT (nw σ11 102 (1 : Int32).toNatClampNeg) fun σ13 => letT (aZ σ11) fun x15 => .inl (1, x3, x9, x15, (0 : Int32), 0, 0, 0, 0, 0, 0, σ13)
noncomputable def T_Lw_law_1 (L : Nat) (xs : Nat → Int32) (v1R : Nat) (v2R : Nat) (v3R : Nat) (v4I : Int32) (σ : AM) : S_Lw_law ⊕ Option (Int32 × AM) :=
  if ((nI L) - (7 : Int32)) < v4I then (.inr (some ((1 : Int32), σ))) else (gdT (inB v4I L) <| letT ((xs v4I.toNatClampNeg) &&& (63 : Int32)) fun x2 => if x2 = (0 : Int32) then (gdT (inB (v4I + (1 : Int32)) L) <| gdT (inB (v4I + (2 : Int32)) L) <| gdT (inB (v4I + (3 : Int32)) L) <| gdT (inB (v4I + (4 : Int32)) L) <| gdT (inB (v4I + (5 : Int32)) L) <| gdT (inB (v4I + (6 : Int32)) L) <| gdT (okO σ v1R 11) <| bndT (M_Bp_feed v1R ((((xs (v4I + (1 : Int32)).toNatClampNeg).toInt64) <<< ((32 : Int32).toInt64 &&& 63)) ||| (((xs (v4I + (2 : Int32)).toNatClampNeg).toInt64) &&& (4294967295 : Int64))) ((((xs (v4I + (3 : Int32)).toNatClampNeg).toInt64) <<< ((32 : Int32).toInt64 &&& 63)) ||| (((xs (v4I + (4 : Int32)).toNatClampNeg).toInt64) &&& (4294967295 : Int64))) ((((xs (v4I + (5 : Int32)).toNatClampNeg).toInt64) <<< ((32 : Int32).toInt64 &&& 63)) ||| (((xs (v4I + (6 : Int32)).toNatClampNeg).toInt64) &&& (4294967295 : Int64))) σ) fun r10 σ11 => gdT (inB (v4I + (1 : Int32)) L) <| gdT (inB (v4I + (2 : Int32)) L) <| gdT (inB (v4I + (3 : Int32)) L) <| gdT (inB (v4I + (4 : Int32)) L) <| gdT (inB (v4I + (5 : Int32)) L) <| gdT (inB (v4I + (6 : Int32)) L) <| gdT (okO σ11 v2R 12) <| bndT (M_Md_feed v2R ((((xs (v4I + (1 : Int32)).toNatClampNeg).toInt64) <<< ((32 : Int32).toInt64 &&& 63)) ||| (((xs (v4I + (2 : Int32)).toNatClampNeg).toInt64) &&& (4294967295 : Int64))) ((((xs (v4I + (3 : Int32)).toNatClampNeg).toInt64) <<< ((32 : Int32).toInt64 &&& 63)) ||| (((xs (v4I + (4 : Int32)).toNatClampNeg).toInt64) &&& (4294967295 : Int64))) ((((xs (v4I + (5 : Int32)).toNatClampNeg).toInt64) <<< ((32 : Int32).toInt64 &&& 63)) ||| (((xs (v4I + (6 : Int32)).toNatClampNeg).toInt64) &&& (4294967295 : Int64))) σ11) fun r19 σ20 => if r10 = r19 then (.inl (9, v1R, v2R, v3R, v4I, 0, 0, 0, 0, 0, 0, σ20)) else (.inr (some ((0 : Int32), σ20)))) else (if x2 = (1 : Int32) then (gdT (okO σ v1R 11) <| bndT (M_Bp_tower v1R σ) fun r23 σ24 => gdT (okO σ24 v2R 12) <| bndT (M_Md_tower v2R σ24) fun r26 σ27 => if r23 = r26 then (.inl (9, v1R, v2R, v3R, v4I, 0, 0, 0, 0, 0, 0, σ27)) else (.inr (some ((0 : Int32), σ27)))) else (if x2 = (2 : Int32) then (gdT (inB (v4I + (1 : Int32)) L) <| gdT (okO σ v1R 11) <| bndT (M_Bp_may v1R (xs (v4I + (1 : Int32)).toNatClampNeg) σ) fun r31 σ32 => gdT (inB (v4I + (1 : Int32)) L) <| gdT (okO σ32 v2R 12) <| bndT (M_Md_may v2R (xs (v4I + (1 : Int32)).toNatClampNeg) σ32) fun r35 σ36 => if r31 = r35 then (.inl (9, v1R, v2R, v3R, v4I, 0, 0, 0, 0, 0, 0, σ36)) else (.inr (some ((0 : Int32), σ36)))) else (if x2 = (3 : Int32) then (gdT (inB (v4I + (1 : Int32)) L) <| gdT (okO σ v1R 11) <| bndT (M_Bp_list v1R (xs (v4I + (1 : Int32)).toNatClampNeg) σ) fun r40 σ41 => gdT (inB (v4I + (1 : Int32)) L) <| gdT (okO σ41 v2R 12) <| bndT (M_Md_list v2R (xs (v4I + (1 : Int32)).toNatClampNeg) σ41) fun r44 σ45 => if (lg_cmp r40 r44) = 0 then (.inl (9, v1R, v2R, v3R, v4I, 0, 0, 0, 0, 0, 0, σ45)) else (.inr (some ((0 : Int32), σ45)))) else (if x2 = (4 : Int32) then (gdT (inB (v4I + (1 : Int32)) L) <| gdT (okO σ v1R 11) <| bndT (M_Bp_cost v1R (xs (v4I + (1 : Int32)).toNatClampNeg) σ) fun r49 σ50 => gdT (inB (v4I + (1 : Int32)) L) <| gdT (okO σ50 v2R 12) <| bndT (M_Md_cost v2R (xs (v4I + (1 : Int32)).toNatClampNeg) σ50) fun r53 σ54 => if r49 = r53 then (.inl (9, v1R, v2R, v3R, v4I, 0, 0, 0, 0, 0, 0, σ54)) else (.inr (some ((0 : Int32), σ54)))) else (if x2 = (5 : Int32) then (gdT (inB (v4I + (1 : Int32)) L) <| gdT (inB (v4I + (2 : Int32)) L) <| if (xs (v4I + (2 : Int32)).toNatClampNeg) = 0 then (.inl (2, v1R, v2R, v3R, v4I, 0, v1R, xs (v4I + (1 : Int32)).toNatClampNeg, 0, (0 : Int32), 0, σ)) else (.inl (2, v1R, v2R, v3R, v4I, 0, v1R, xs (v4I + (1 : Int32)).toNatClampNeg, 0, (1 : Int32), 0, σ))) else (if x2 = (6 : Int32) then (gdT (inB (v4I + (1 : Int32)) L) <| gdT (inB (v4I + (2 : Int32)) L) <| gdT (okO σ v1R 11) <| bndT (M_Bp_hint v1R (xs (v4I + (1 : Int32)).toNatClampNeg) (xs (v4I + (2 : Int32)).toNatClampNeg) σ) fun r62 σ63 => gdT (inB (v4I + (1 : Int32)) L) <| gdT (inB (v4I + (2 : Int32)) L) <| gdT (okO σ63 v2R 12) <| bndT (M_Md_hint v2R (xs (v4I + (1 : Int32)).toNatClampNeg) (xs (v4I + (2 : Int32)).toNatClampNeg) σ63) fun r67 σ68 => if r62 = r67 then (.inl (9, v1R, v2R, v3R, v4I, 0, 0, 0, 0, 0, 0, σ68)) else (.inr (some ((0 : Int32), σ68)))) else (if x2 = (7 : Int32) then (gdT (inB (v4I + (1 : Int32)) L) <| gdT (okO σ v1R 11) <| bndT (M_Bp_left v1R (xs (v4I + (1 : Int32)).toNatClampNeg) σ) fun r72 σ73 => gdT (inB (v4I + (1 : Int32)) L) <| gdT (okO σ73 v2R 12) <| bndT (M_Md_left v2R (xs (v4I + (1 : Int32)).toNatClampNeg) σ73) fun r76 σ77 => if r72 = r76 then (.inl (9, v1R, v2R, v3R, v4I, 0, 0, 0, 0, 0, 0, σ77)) else (.inr (some ((0 : Int32), σ77)))) else (if x2 = (8 : Int32) then (gdT (inB (v4I + (1 : Int32)) L) <| gdT (okO σ v1R 11) <| bndT (M_Bp_sure v1R (xs (v4I + (1 : Int32)).toNatClampNeg) σ) fun r81 σ82 => gdT (inB (v4I + (1 : Int32)) L) <| gdT (okO σ82 v2R 12) <| bndT (M_Md_sure v2R (xs (v4I + (1 : Int32)).toNatClampNeg) σ82) fun r85 σ86 => if r81 = r85 then (.inl (9, v1R, v2R, v3R, v4I, 0, 0, 0, 0, 0, 0, σ86)) else (.inr (some ((0 : Int32), σ86)))) else (if x2 = (9 : Int32) then (gdT (inB (v4I + (1 : Int32)) L) <| gdT (okO σ v1R 11) <| bndT (M_Bp_matters v1R (xs (v4I + (1 : Int32)).toNatClampNeg) σ) fun r90 σ91 => gdT (inB (v4I + (1 : Int32)) L) <| gdT (okO σ91 v2R 12) <| bndT (M_Md_matters v2R (xs (v4I + (1 : Int32)).toNatClampNeg) σ91) fun r94 σ95 => if r90 = r94 then (.inl (9, v1R, v2R, v3R, v4I, 0, 0, 0, 0, 0, 0, σ95)) else (.inr (some ((0 : Int32), σ95)))) else (if x2 = (10 : Int32) then (gdT (inB (v4I + (1 : Int32)) L) <| gdT (inB (v4I + (2 : Int32)) L) <| gdT (okO σ v1R 11) <| bndT (M_Bp_alike v1R (xs (v4I + (1 : Int32)).toNatClampNeg) (xs (v4I + (2 : Int32)).toNatClampNeg) σ) fun r100 σ101 => gdT (inB (v4I + (1 : Int32)) L) <| gdT (inB (v4I + (2 : Int32)) L) <| gdT (okO σ101 v2R 12) <| bndT (M_Md_alike v2R (xs (v4I + (1 : Int32)).toNatClampNeg) (xs (v4I + (2 : Int32)).toNatClampNeg) σ101) fun r105 σ106 => if r100 = r105 then (.inl (9, v1R, v2R, v3R, v4I, 0, 0, 0, 0, 0, 0, σ106)) else (.inr (some ((0 : Int32), σ106)))) else (if x2 = (11 : Int32) then (gdT (inB (v4I + (1 : Int32)) L) <| gdT (okO σ v1R 11) <| bndT (M_Bp_next v1R (xs (v4I + (1 : Int32)).toNatClampNeg) σ) fun r110 σ111 => gdT (inB (v4I + (1 : Int32)) L) <| gdT (okO σ111 v2R 12) <| bndT (M_Md_next v2R (xs (v4I + (1 : Int32)).toNatClampNeg) σ111) fun r114 σ115 => if r110 = r114 then (.inl (9, v1R, v2R, v3R, v4I, 0, 0, 0, 0, 0, 0, σ115)) else (.inr (some ((0 : Int32), σ115)))) else (if x2 = (12 : Int32) then (gdT (inB (v4I + (1 : Int32)) L) <| gdT (okO σ v1R 11) <| bndT (M_Bp_fewest v1R (xs (v4I + (1 : Int32)).toNatClampNeg) σ) fun r119 σ120 => gdT (inB (v4I + (1 : Int32)) L) <| gdT (okO σ120 v2R 12) <| bndT (M_Md_fewest v2R (xs (v4I + (1 : Int32)).toNatClampNeg) σ120) fun r123 σ124 => if r119 = r123 then (.inl (9, v1R, v2R, v3R, v4I, 0, 0, 0, 0, 0, 0, σ124)) else (.inr (some ((0 : Int32), σ124)))) else (if x2 = (13 : Int32) then (gdT (inB (v4I + (1 : Int32)) L) <| gdT (inB (v4I + (2 : Int32)) L) <| gdT (inB (v4I + (3 : Int32)) L) <| gdT (okO σ v1R 11) <| bndT (M_Bp_fewestFor v1R (xs (v4I + (1 : Int32)).toNatClampNeg) (xs (v4I + (2 : Int32)).toNatClampNeg) (xs (v4I + (3 : Int32)).toNatClampNeg) σ) fun r130 σ131 => gdT (inB (v4I + (1 : Int32)) L) <| gdT (inB (v4I + (2 : Int32)) L) <| gdT (inB (v4I + (3 : Int32)) L) <| gdT (okO σ131 v2R 12) <| bndT (M_Md_fewestFor v2R (xs (v4I + (1 : Int32)).toNatClampNeg) (xs (v4I + (2 : Int32)).toNatClampNeg) (xs (v4I + (3 : Int32)).toNatClampNeg) σ131) fun r136 σ137 => if r130 = r136 then (.inl (9, v1R, v2R, v3R, v4I, 0, 0, 0, 0, 0, 0, σ137)) else (.inr (some ((0 : Int32), σ137)))) else (if x2 = (14 : Int32) then (gdT (inB (v4I + (1 : Int32)) L) <| gdT (inB (v4I + (2 : Int32)) L) <| gdT (inB (v4I + (3 : Int32)) L) <| bndT (M_Lw_run v1R (xs (v4I + (1 : Int32)).toNatClampNeg) (xs (v4I + (2 : Int32)).toNatClampNeg) (xs (v4I + (3 : Int32)).toNatClampNeg) v3R σ) fun r143 σ144 => gdT (inB (v4I + (1 : Int32)) L) <| gdT (inB (v4I + (2 : Int32)) L) <| gdT (inB (v4I + (3 : Int32)) L) <| gdT (okO σ144 v2R 12) <| bndT (M_Md_run v2R (xs (v4I + (1 : Int32)).toNatClampNeg) (xs (v4I + (2 : Int32)).toNatClampNeg) (xs (v4I + (3 : Int32)).toNatClampNeg) σ144) fun r148 σ149 => gdT (okO σ149 v2R 12) <| bndT (M_Md_thrown v2R σ149) fun r151 σ152 => if r151 = r143 then (if r143 = 0 then (gdT (okO σ152 v3R 102) <| gdT (inB (0 : Int32) (aN σ152 v3R)) <| if (lg_cmp (aL σ152 v3R (0 : Int32).toNatClampNeg) (r148.toInt64)) = 0 then (.inl (4, v1R, v2R, v3R, v4I, 0, 0, 0, 0, 0, 0, σ152)) else (.inr (some ((0 : Int32), σ152)))) else (.inl (4, v1R, v2R, v3R, v4I, 0, 0, 0, 0, 0, 0, σ152))) else (.inr (some ((0 : Int32), σ152)))) else (if x2 = (15 : Int32) then (gdT (inB (v4I + (1 : Int32)) L) <| gdT (inB (v4I + (2 : Int32)) L) <| gdT (inB (v4I + (3 : Int32)) L) <| gdT (okO σ v1R 11) <| bndT (M_Bp_runSet v1R (xs (v4I + (1 : Int32)).toNatClampNeg) (xs (v4I + (2 : Int32)).toNatClampNeg) (xs (v4I + (3 : Int32)).toNatClampNeg) σ) fun r160 σ161 => gdT (inB (v4I + (1 : Int32)) L) <| gdT (inB (v4I + (2 : Int32)) L) <| gdT (inB (v4I + (3 : Int32)) L) <| gdT (okO σ161 v2R 12) <| bndT (M_Md_runSet v2R (xs (v4I + (1 : Int32)).toNatClampNeg) (xs (v4I + (2 : Int32)).toNatClampNeg) (xs (v4I + (3 : Int32)).toNatClampNeg) σ161) fun r166 σ167 => if r160 = r166 then (.inl (9, v1R, v2R, v3R, v4I, 0, 0, 0, 0, 0, 0, σ167)) else (.inr (some ((0 : Int32), σ167)))) else (if x2 = (16 : Int32) then (gdT (inB (v4I + (1 : Int32)) L) <| gdT (okO σ v1R 11) <| bndT (M_Bp_worst v1R (xs (v4I + (1 : Int32)).toNatClampNeg) σ) fun r171 σ172 => gdT (inB (v4I + (1 : Int32)) L) <| gdT (okO σ172 v2R 12) <| bndT (M_Md_worst v2R (xs (v4I + (1 : Int32)).toNatClampNeg) σ172) fun r175 σ176 => if r171 = r175 then (.inl (9, v1R, v2R, v3R, v4I, 0, 0, 0, 0, 0, 0, σ176)) else (.inr (some ((0 : Int32), σ176)))) else (if x2 = (17 : Int32) then (gdT (inB (v4I + (1 : Int32)) L) <| gdT (inB (v4I + (2 : Int32)) L) <| gdT (okO σ v1R 11) <| bndT (M_Bp_mean v1R (xs (v4I + (1 : Int32)).toNatClampNeg) (xs (v4I + (2 : Int32)).toNatClampNeg) σ) fun r181 σ182 => gdT (inB (v4I + (1 : Int32)) L) <| gdT (inB (v4I + (2 : Int32)) L) <| gdT (okO σ182 v2R 12) <| bndT (M_Md_mean v2R (xs (v4I + (1 : Int32)).toNatClampNeg) (xs (v4I + (2 : Int32)).toNatClampNeg) σ182) fun r186 σ187 => if r181 = r186 then (.inl (9, v1R, v2R, v3R, v4I, 0, 0, 0, 0, 0, 0, σ187)) else (.inr (some ((0 : Int32), σ187)))) else (if x2 = (18 : Int32) then (gdT (inB (v4I + (1 : Int32)) L) <| gdT (okO σ v1R 11) <| bndT (M_Bp_smallest v1R (xs (v4I + (1 : Int32)).toNatClampNeg) σ) fun r191 σ192 => gdT (inB (v4I + (1 : Int32)) L) <| gdT (okO σ192 v2R 12) <| bndT (M_Md_smallest v2R (xs (v4I + (1 : Int32)).toNatClampNeg) σ192) fun r195 σ196 => if r191 = r195 then (.inl (9, v1R, v2R, v3R, v4I, 0, 0, 0, 0, 0, 0, σ196)) else (.inr (some ((0 : Int32), σ196)))) else (if x2 = (19 : Int32) then (gdT (inB (v4I + (1 : Int32)) L) <| gdT (okO σ v1R 11) <| bndT (M_Bp_cannot v1R (xs (v4I + (1 : Int32)).toNatClampNeg) σ) fun r200 σ201 => gdT (inB (v4I + (1 : Int32)) L) <| gdT (okO σ201 v2R 12) <| bndT (M_Md_cannot v2R (xs (v4I + (1 : Int32)).toNatClampNeg) σ201) fun r204 σ205 => if r200 = r204 then (.inl (9, v1R, v2R, v3R, v4I, 0, 0, 0, 0, 0, 0, σ205)) else (.inr (some ((0 : Int32), σ205)))) else (if x2 = (20 : Int32) then (gdT (inB (v4I + (1 : Int32)) L) <| gdT (okO σ v1R 11) <| bndT (M_Bp_wrong v1R (xs (v4I + (1 : Int32)).toNatClampNeg) σ) fun r209 σ210 => gdT (inB (v4I + (1 : Int32)) L) <| gdT (okO σ210 v2R 12) <| bndT (M_Md_wrong v2R (xs (v4I + (1 : Int32)).toNatClampNeg) σ210) fun r213 σ214 => if r209 = r213 then (.inl (9, v1R, v2R, v3R, v4I, 0, 0, 0, 0, 0, 0, σ214)) else (.inr (some ((0 : Int32), σ214)))) else (if x2 = (21 : Int32) then (gdT (inB (v4I + (1 : Int32)) L) <| gdT (okO σ v1R 11) <| bndT (M_Bp_suspect v1R (xs (v4I + (1 : Int32)).toNatClampNeg) σ) fun r218 σ219 => gdT (inB (v4I + (1 : Int32)) L) <| gdT (okO σ219 v2R 12) <| bndT (M_Md_suspect v2R (xs (v4I + (1 : Int32)).toNatClampNeg) σ219) fun r222 σ223 => if r218 = r222 then (.inl (9, v1R, v2R, v3R, v4I, 0, 0, 0, 0, 0, 0, σ223)) else (.inr (some ((0 : Int32), σ223)))) else (if x2 = (22 : Int32) then (gdT (inB (v4I + (1 : Int32)) L) <| gdT (okO σ v1R 11) <| bndT (M_Bp_with v1R (xs (v4I + (1 : Int32)).toNatClampNeg) σ) fun r227 σ228 => gdT (inB (v4I + (1 : Int32)) L) <| gdT (okO σ228 v2R 12) <| bndT (M_Md_with v2R (xs (v4I + (1 : Int32)).toNatClampNeg) σ228) fun r231 σ232 => if r227 = r231 then (.inl (9, v1R, v2R, v3R, v4I, 0, 0, 0, 0, 0, 0, σ232)) else (.inr (some ((0 : Int32), σ232)))) else (if x2 = (23 : Int32) then (gdT (inB (v4I + (1 : Int32)) L) <| gdT (okO σ v1R 11) <| bndT (M_Bp_grown v1R (xs (v4I + (1 : Int32)).toNatClampNeg) σ) fun r236 σ237 => gdT (inB (v4I + (1 : Int32)) L) <| gdT (okO σ237 v2R 12) <| bndT (M_Md_grown v2R (xs (v4I + (1 : Int32)).toNatClampNeg) σ237) fun r240 σ241 => if r236 = r240 then (.inl (9, v1R, v2R, v3R, v4I, 0, 0, 0, 0, 0, 0, σ241)) else (.inr (some ((0 : Int32), σ241)))) else (if x2 = (24 : Int32) then (gdT (okO σ v1R 11) <| bndT (M_Bp_bells v1R σ) fun r244 σ245 => gdT (okO σ245 v2R 12) <| bndT (M_Md_bells v2R σ245) fun r247 σ248 => if r244 = r247 then (.inl (9, v1R, v2R, v3R, v4I, 0, 0, 0, 0, 0, 0, σ248)) else (.inr (some ((0 : Int32), σ248)))) else (if x2 = (25 : Int32) then (gdT (inB (v4I + (1 : Int32)) L) <| gdT (inB (v4I + (2 : Int32)) L) <| gdT (okO σ v1R 11) <| bndT (M_Bp_late v1R (xs (v4I + (1 : Int32)).toNatClampNeg) (xs (v4I + (2 : Int32)).toNatClampNeg) σ) fun r253 σ254 => gdT (inB (v4I + (1 : Int32)) L) <| gdT (inB (v4I + (2 : Int32)) L) <| gdT (okO σ254 v2R 12) <| bndT (M_Md_late v2R (xs (v4I + (1 : Int32)).toNatClampNeg) (xs (v4I + (2 : Int32)).toNatClampNeg) σ254) fun r258 σ259 => if r253 = r258 then (.inl (9, v1R, v2R, v3R, v4I, 0, 0, 0, 0, 0, 0, σ259)) else (.inr (some ((0 : Int32), σ259)))) else (if x2 = (26 : Int32) then (gdT (inB (v4I + (1 : Int32)) L) <| gdT (okO σ v1R 11) <| bndT (M_Bp_often v1R (xs (v4I + (1 : Int32)).toNatClampNeg) σ) fun r263 σ264 => gdT (inB (v4I + (1 : Int32)) L) <| gdT (okO σ264 v2R 12) <| bndT (M_Md_often v2R (xs (v4I + (1 : Int32)).toNatClampNeg) σ264) fun r267 σ268 => if r263 = r267 then (.inl (9, v1R, v2R, v3R, v4I, 0, 0, 0, 0, 0, 0, σ268)) else (.inr (some ((0 : Int32), σ268)))) else (if x2 = (27 : Int32) then (gdT (inB (v4I + (1 : Int32)) L) <| gdT (okO σ v1R 11) <| bndT (M_Bp_rings v1R (xs (v4I + (1 : Int32)).toNatClampNeg) σ) fun r272 σ273 => gdT (inB (v4I + (1 : Int32)) L) <| gdT (okO σ273 v2R 12) <| bndT (M_Md_rings v2R (xs (v4I + (1 : Int32)).toNatClampNeg) σ273) fun r276 σ277 => if r272 = r276 then (.inl (9, v1R, v2R, v3R, v4I, 0, 0, 0, 0, 0, 0, σ277)) else (.inr (some ((0 : Int32), σ277)))) else (if x2 = (28 : Int32) then (gdT (inB (v4I + (1 : Int32)) L) <| gdT (inB (v4I + (2 : Int32)) L) <| gdT (inB (v4I + (3 : Int32)) L) <| gdT (okO σ v1R 11) <| bndT (M_Bp_vote v1R (xs (v4I + (1 : Int32)).toNatClampNeg) (xs (v4I + (2 : Int32)).toNatClampNeg) (xs (v4I + (3 : Int32)).toNatClampNeg) σ) fun r283 σ284 => gdT (inB (v4I + (1 : Int32)) L) <| gdT (inB (v4I + (2 : Int32)) L) <| gdT (inB (v4I + (3 : Int32)) L) <| gdT (okO σ284 v2R 12) <| bndT (M_Md_vote v2R (xs (v4I + (1 : Int32)).toNatClampNeg) (xs (v4I + (2 : Int32)).toNatClampNeg) (xs (v4I + (3 : Int32)).toNatClampNeg) σ284) fun r289 σ290 => if r283 = r289 then (.inl (9, v1R, v2R, v3R, v4I, 0, 0, 0, 0, 0, 0, σ290)) else (.inr (some ((0 : Int32), σ290)))) else (if x2 = (29 : Int32) then (gdT (inB (v4I + (1 : Int32)) L) <| gdT (inB (v4I + (2 : Int32)) L) <| gdT (okO σ v1R 11) <| bndT (M_Bp_swings v1R (xs (v4I + (1 : Int32)).toNatClampNeg) (xs (v4I + (2 : Int32)).toNatClampNeg) σ) fun r295 σ296 => gdT (inB (v4I + (1 : Int32)) L) <| gdT (inB (v4I + (2 : Int32)) L) <| gdT (okO σ296 v2R 12) <| bndT (M_Md_swings v2R (xs (v4I + (1 : Int32)).toNatClampNeg) (xs (v4I + (2 : Int32)).toNatClampNeg) σ296) fun r300 σ301 => if r295 = r300 then (.inl (9, v1R, v2R, v3R, v4I, 0, 0, 0, 0, 0, 0, σ301)) else (.inr (some ((0 : Int32), σ301)))) else (if x2 = (30 : Int32) then (gdT (inB (v4I + (1 : Int32)) L) <| gdT (inB (v4I + (2 : Int32)) L) <| if (xs (v4I + (2 : Int32)).toNatClampNeg) = 0 then (.inl (5, v1R, v2R, v3R, v4I, 0, v1R, xs (v4I + (1 : Int32)).toNatClampNeg, 0, (0 : Int32), 0, σ)) else (.inl (5, v1R, v2R, v3R, v4I, 0, v1R, xs (v4I + (1 : Int32)).toNatClampNeg, 0, (1 : Int32), 0, σ))) else (if x2 = (31 : Int32) then (gdT (inB (v4I + (1 : Int32)) L) <| gdT (inB (v4I + (2 : Int32)) L) <| gdT (okO σ v1R 11) <| bndT (M_Bp_leastSet v1R (xs (v4I + (1 : Int32)).toNatClampNeg) (xs (v4I + (2 : Int32)).toNatClampNeg) σ) fun r309 σ310 => gdT (inB (v4I + (1 : Int32)) L) <| gdT (inB (v4I + (2 : Int32)) L) <| gdT (okO σ310 v2R 12) <| bndT (M_Md_leastSet v2R (xs (v4I + (1 : Int32)).toNatClampNeg) (xs (v4I + (2 : Int32)).toNatClampNeg) σ310) fun r314 σ315 => if r309 = r314 then (.inl (9, v1R, v2R, v3R, v4I, 0, 0, 0, 0, 0, 0, σ315)) else (.inr (some ((0 : Int32), σ315)))) else (if x2 = (32 : Int32) then (gdT (inB (v4I + (1 : Int32)) L) <| gdT (okO σ v1R 11) <| bndT (M_Bp_vetoes v1R (xs (v4I + (1 : Int32)).toNatClampNeg) σ) fun r319 σ320 => gdT (inB (v4I + (1 : Int32)) L) <| gdT (okO σ320 v2R 12) <| bndT (M_Md_vetoes v2R (xs (v4I + (1 : Int32)).toNatClampNeg) σ320) fun r323 σ324 => if r319 = r323 then (.inl (9, v1R, v2R, v3R, v4I, 0, 0, 0, 0, 0, 0, σ324)) else (.inr (some ((0 : Int32), σ324)))) else (if x2 = (33 : Int32) then (gdT (inB (v4I + (1 : Int32)) L) <| gdT (inB (v4I + (2 : Int32)) L) <| gdT (okO σ v1R 11) <| bndT (M_Bp_same v1R (xs (v4I + (1 : Int32)).toNatClampNeg) (xs (v4I + (2 : Int32)).toNatClampNeg) σ) fun r329 σ330 => gdT (inB (v4I + (1 : Int32)) L) <| gdT (inB (v4I + (2 : Int32)) L) <| gdT (okO σ330 v2R 12) <| bndT (M_Md_same v2R (xs (v4I + (1 : Int32)).toNatClampNeg) (xs (v4I + (2 : Int32)).toNatClampNeg) σ330) fun r334 σ335 => if r329 = r334 then (.inl (9, v1R, v2R, v3R, v4I, 0, 0, 0, 0, 0, 0, σ335)) else (.inr (some ((0 : Int32), σ335)))) else (if x2 = (34 : Int32) then (gdT (inB (v4I + (1 : Int32)) L) <| gdT (okO σ v1R 11) <| bndT (M_Bp_lay v1R (xs (v4I + (1 : Int32)).toNatClampNeg) σ) fun r339 σ340 => gdT (inB (v4I + (1 : Int32)) L) <| gdT (okO σ340 v2R 12) <| bndT (M_Md_lay v2R (xs (v4I + (1 : Int32)).toNatClampNeg) σ340) fun r343 σ344 => if r339 = r343 then (.inl (9, v1R, v2R, v3R, v4I, 0, 0, 0, 0, 0, 0, σ344)) else (.inr (some ((0 : Int32), σ344)))) else (if x2 = (35 : Int32) then (gdT (okO σ v1R 11) <| bndT (M_Bp_clear v1R σ) fun r347 σ348 => gdT (okO σ348 v2R 12) <| bndT (M_Md_clear v2R σ348) fun r350 σ351 => if r347 = r350 then (.inl (9, v1R, v2R, v3R, v4I, 0, 0, 0, 0, 0, 0, σ351)) else (.inr (some ((0 : Int32), σ351)))) else (if x2 = (36 : Int32) then (gdT (inB (v4I + (1 : Int32)) L) <| gdT (okO σ v1R 11) <| bndT (M_Bp_feather v1R (xs (v4I + (1 : Int32)).toNatClampNeg) σ) fun r355 σ356 => gdT (inB (v4I + (1 : Int32)) L) <| gdT (okO σ356 v2R 12) <| bndT (M_Md_feather v2R (xs (v4I + (1 : Int32)).toNatClampNeg) σ356) fun r359 σ360 => if r355 = r359 then (.inl (9, v1R, v2R, v3R, v4I, 0, 0, 0, 0, 0, 0, σ360)) else (.inr (some ((0 : Int32), σ360)))) else (if x2 = (37 : Int32) then (gdT (inB (v4I + (1 : Int32)) L) <| gdT (inB (v4I + (2 : Int32)) L) <| gdT (okO σ v1R 11) <| bndT (M_Bp_odds v1R (xs (v4I + (1 : Int32)).toNatClampNeg) (xs (v4I + (2 : Int32)).toNatClampNeg) σ) fun r365 σ366 => gdT (inB (v4I + (1 : Int32)) L) <| gdT (inB (v4I + (2 : Int32)) L) <| gdT (okO σ366 v2R 12) <| bndT (M_Md_odds v2R (xs (v4I + (1 : Int32)).toNatClampNeg) (xs (v4I + (2 : Int32)).toNatClampNeg) σ366) fun r370 σ371 => if r365 = r370 then (.inl (9, v1R, v2R, v3R, v4I, 0, 0, 0, 0, 0, 0, σ371)) else (.inr (some ((0 : Int32), σ371)))) else (if x2 = (38 : Int32) then (gdT (inB (v4I + (1 : Int32)) L) <| gdT (inB (v4I + (2 : Int32)) L) <| gdT (okO σ v1R 11) <| bndT (M_Bp_guess v1R (xs (v4I + (1 : Int32)).toNatClampNeg) (xs (v4I + (2 : Int32)).toNatClampNeg) σ) fun r376 σ377 => gdT (inB (v4I + (1 : Int32)) L) <| gdT (inB (v4I + (2 : Int32)) L) <| gdT (okO σ377 v2R 12) <| bndT (M_Md_guess v2R (xs (v4I + (1 : Int32)).toNatClampNeg) (xs (v4I + (2 : Int32)).toNatClampNeg) σ377) fun r381 σ382 => if r376 = r381 then (.inl (9, v1R, v2R, v3R, v4I, 0, 0, 0, 0, 0, 0, σ382)) else (.inr (some ((0 : Int32), σ382)))) else (if x2 = (39 : Int32) then (gdT (inB (v4I + (1 : Int32)) L) <| gdT (inB (v4I + (2 : Int32)) L) <| if (xs (v4I + (2 : Int32)).toNatClampNeg) = 0 then (.inl (7, v1R, v2R, v3R, v4I, 0, v1R, xs (v4I + (1 : Int32)).toNatClampNeg, 0, (0 : Int32), 0, σ)) else (.inl (7, v1R, v2R, v3R, v4I, 0, v1R, xs (v4I + (1 : Int32)).toNatClampNeg, 0, (1 : Int32), 0, σ))) else (if x2 = (40 : Int32) then (gdT (inB (v4I + (1 : Int32)) L) <| gdT (okO σ v1R 11) <| bndT (M_Bp_count v1R (xs (v4I + (1 : Int32)).toNatClampNeg) σ) fun r389 σ390 => gdT (inB (v4I + (1 : Int32)) L) <| gdT (okO σ390 v2R 12) <| bndT (M_Md_count v2R (xs (v4I + (1 : Int32)).toNatClampNeg) σ390) fun r393 σ394 => if r389 = r393 then (.inl (9, v1R, v2R, v3R, v4I, 0, 0, 0, 0, 0, 0, σ394)) else (.inr (some ((0 : Int32), σ394)))) else (.inl (9, v1R, v2R, v3R, v4I, 0, 0, 0, 0, 0, 0, σ)))))))))))))))))))))))))))))))))))))))))))
noncomputable def T_Lw_law_2 (L : Nat) (xs : Nat → Int32) (v1R : Nat) (v2R : Nat) (v3R : Nat) (v4I : Int32) (s0R : Nat) (s1I : Int32) (s2I : Int32) (σ : AM) : S_Lw_law ⊕ Option (Int32 × AM) :=
  gdT (okO σ s0R 11) <| bndT (M_Bp_trial s0R s1I s2I σ) fun r1 σ2 => gdT (inB (v4I + (1 : Int32)) L) <| gdT (inB (v4I + (2 : Int32)) L) <| if (xs (v4I + (2 : Int32)).toNatClampNeg) = 0 then (.inl (3, v1R, v2R, v3R, v4I, r1, 0, 0, v2R, xs (v4I + (1 : Int32)).toNatClampNeg, (0 : Int32), σ2)) else (.inl (3, v1R, v2R, v3R, v4I, r1, 0, 0, v2R, xs (v4I + (1 : Int32)).toNatClampNeg, (1 : Int32), σ2))
noncomputable def T_Lw_law_3 (L : Nat) (xs : Nat → Int32) (v1R : Nat) (v2R : Nat) (v3R : Nat) (v4I : Int32) (s0I : Int32) (s1R : Nat) (s2I : Int32) (s3I : Int32) (σ : AM) : S_Lw_law ⊕ Option (Int32 × AM) :=
  gdT (okO σ s1R 12) <| bndT (M_Md_trial s1R s2I s3I σ) fun r1 σ2 => if s0I = r1 then (.inl (9, v1R, v2R, v3R, v4I, 0, 0, 0, 0, 0, 0, σ2)) else (.inr (some ((0 : Int32), σ2)))
noncomputable def T_Lw_law_4 (L : Nat) (xs : Nat → Int32) (v1R : Nat) (v2R : Nat) (v3R : Nat) (v4I : Int32) (σ : AM) : S_Lw_law ⊕ Option (Int32 × AM) :=
  .inl (9, v1R, v2R, v3R, v4I, 0, 0, 0, 0, 0, 0, σ)
noncomputable def T_Lw_law_5 (L : Nat) (xs : Nat → Int32) (v1R : Nat) (v2R : Nat) (v3R : Nat) (v4I : Int32) (s0R : Nat) (s1I : Int32) (s2I : Int32) (σ : AM) : S_Lw_law ⊕ Option (Int32 × AM) :=
  gdT (inB (v4I + (3 : Int32)) L) <| gdT (okO σ s0R 11) <| bndT (M_Bp_heavy s0R s1I s2I (xs (v4I + (3 : Int32)).toNatClampNeg) σ) fun r2 σ3 => gdT (inB (v4I + (1 : Int32)) L) <| gdT (inB (v4I + (2 : Int32)) L) <| if (xs (v4I + (2 : Int32)).toNatClampNeg) = 0 then (.inl (6, v1R, v2R, v3R, v4I, r2, 0, 0, v2R, xs (v4I + (1 : Int32)).toNatClampNeg, (0 : Int32), σ3)) else (.inl (6, v1R, v2R, v3R, v4I, r2, 0, 0, v2R, xs (v4I + (1 : Int32)).toNatClampNeg, (1 : Int32), σ3))
noncomputable def T_Lw_law_6 (L : Nat) (xs : Nat → Int32) (v1R : Nat) (v2R : Nat) (v3R : Nat) (v4I : Int32) (s0I : Int32) (s1R : Nat) (s2I : Int32) (s3I : Int32) (σ : AM) : S_Lw_law ⊕ Option (Int32 × AM) :=
  gdT (inB (v4I + (3 : Int32)) L) <| gdT (okO σ s1R 12) <| bndT (M_Md_heavy s1R s2I s3I (xs (v4I + (3 : Int32)).toNatClampNeg) σ) fun r2 σ3 => if s0I = r2 then (.inl (9, v1R, v2R, v3R, v4I, 0, 0, 0, 0, 0, 0, σ3)) else (.inr (some ((0 : Int32), σ3)))
noncomputable def T_Lw_law_7 (L : Nat) (xs : Nat → Int32) (v1R : Nat) (v2R : Nat) (v3R : Nat) (v4I : Int32) (s0R : Nat) (s1I : Int32) (s2I : Int32) (σ : AM) : S_Lw_law ⊕ Option (Int32 × AM) :=
  gdT (okO σ s0R 11) <| bndT (M_Bp_mark s0R s1I s2I σ) fun r1 σ2 => gdT (inB (v4I + (1 : Int32)) L) <| gdT (inB (v4I + (2 : Int32)) L) <| if (xs (v4I + (2 : Int32)).toNatClampNeg) = 0 then (.inl (8, v1R, v2R, v3R, v4I, r1, 0, 0, v2R, xs (v4I + (1 : Int32)).toNatClampNeg, (0 : Int32), σ2)) else (.inl (8, v1R, v2R, v3R, v4I, r1, 0, 0, v2R, xs (v4I + (1 : Int32)).toNatClampNeg, (1 : Int32), σ2))
noncomputable def T_Lw_law_8 (L : Nat) (xs : Nat → Int32) (v1R : Nat) (v2R : Nat) (v3R : Nat) (v4I : Int32) (s0I : Int32) (s1R : Nat) (s2I : Int32) (s3I : Int32) (σ : AM) : S_Lw_law ⊕ Option (Int32 × AM) :=
  gdT (okO σ s1R 12) <| bndT (M_Md_mark s1R s2I s3I σ) fun r1 σ2 => if s0I = r1 then (.inl (9, v1R, v2R, v3R, v4I, 0, 0, 0, 0, 0, 0, σ2)) else (.inr (some ((0 : Int32), σ2)))
noncomputable def T_Lw_law_9 (L : Nat) (xs : Nat → Int32) (v1R : Nat) (v2R : Nat) (v3R : Nat) (v4I : Int32) (σ : AM) : S_Lw_law ⊕ Option (Int32 × AM) :=
  .inl (1, v1R, v2R, v3R, v4I + (7 : Int32), 0, 0, 0, 0, 0, 0, σ)
noncomputable def F_Lw_law (L : Nat) (xs : Nat → Int32) : S_Lw_law → S_Lw_law ⊕ Option (Int32 × AM) := fun s => match s.1 with
  | 0 => T_Lw_law_0 L xs  (s.2.2.2.2.2.2.2.2.2.2.2)
  | 1 => T_Lw_law_1 L xs (s.2.1) (s.2.2.1) (s.2.2.2.1) (s.2.2.2.2.1) (s.2.2.2.2.2.2.2.2.2.2.2)
  | 2 => T_Lw_law_2 L xs (s.2.1) (s.2.2.1) (s.2.2.2.1) (s.2.2.2.2.1) (s.2.2.2.2.2.2.1) (s.2.2.2.2.2.2.2.1) (s.2.2.2.2.2.2.2.2.2.1) (s.2.2.2.2.2.2.2.2.2.2.2)
  | 3 => T_Lw_law_3 L xs (s.2.1) (s.2.2.1) (s.2.2.2.1) (s.2.2.2.2.1) (s.2.2.2.2.2.1) (s.2.2.2.2.2.2.2.2.1) (s.2.2.2.2.2.2.2.2.2.1) (s.2.2.2.2.2.2.2.2.2.2.1) (s.2.2.2.2.2.2.2.2.2.2.2)
  | 4 => T_Lw_law_4 L xs (s.2.1) (s.2.2.1) (s.2.2.2.1) (s.2.2.2.2.1) (s.2.2.2.2.2.2.2.2.2.2.2)
  | 5 => T_Lw_law_5 L xs (s.2.1) (s.2.2.1) (s.2.2.2.1) (s.2.2.2.2.1) (s.2.2.2.2.2.2.1) (s.2.2.2.2.2.2.2.1) (s.2.2.2.2.2.2.2.2.2.1) (s.2.2.2.2.2.2.2.2.2.2.2)
  | 6 => T_Lw_law_6 L xs (s.2.1) (s.2.2.1) (s.2.2.2.1) (s.2.2.2.2.1) (s.2.2.2.2.2.1) (s.2.2.2.2.2.2.2.2.1) (s.2.2.2.2.2.2.2.2.2.1) (s.2.2.2.2.2.2.2.2.2.2.1) (s.2.2.2.2.2.2.2.2.2.2.2)
  | 7 => T_Lw_law_7 L xs (s.2.1) (s.2.2.1) (s.2.2.2.1) (s.2.2.2.2.1) (s.2.2.2.2.2.2.1) (s.2.2.2.2.2.2.2.1) (s.2.2.2.2.2.2.2.2.2.1) (s.2.2.2.2.2.2.2.2.2.2.2)
  | 8 => T_Lw_law_8 L xs (s.2.1) (s.2.2.1) (s.2.2.2.1) (s.2.2.2.2.1) (s.2.2.2.2.2.1) (s.2.2.2.2.2.2.2.2.1) (s.2.2.2.2.2.2.2.2.2.1) (s.2.2.2.2.2.2.2.2.2.2.1) (s.2.2.2.2.2.2.2.2.2.2.2)
  | _ => T_Lw_law_9 L xs (s.2.1) (s.2.2.1) (s.2.2.2.1) (s.2.2.2.2.1) (s.2.2.2.2.2.2.2.2.2.2.2)
noncomputable def L_Lw_law_0 (L : Nat) (xs : Nat → Int32)  (σ : AM) : Option (Int32 × AM) := lp (F_Lw_law L xs) (0, 0, 0, 0, 0, 0, 0, 0, 0, 0, 0, σ)
noncomputable def L_Lw_law_1 (L : Nat) (xs : Nat → Int32) (v1R : Nat) (v2R : Nat) (v3R : Nat) (v4I : Int32) (σ : AM) : Option (Int32 × AM) := lp (F_Lw_law L xs) (1, v1R, v2R, v3R, v4I, 0, 0, 0, 0, 0, 0, σ)
noncomputable def L_Lw_law_2 (L : Nat) (xs : Nat → Int32) (v1R : Nat) (v2R : Nat) (v3R : Nat) (v4I : Int32) (s0R : Nat) (s1I : Int32) (s2I : Int32) (σ : AM) : Option (Int32 × AM) := lp (F_Lw_law L xs) (2, v1R, v2R, v3R, v4I, 0, s0R, s1I, 0, s2I, 0, σ)
noncomputable def L_Lw_law_3 (L : Nat) (xs : Nat → Int32) (v1R : Nat) (v2R : Nat) (v3R : Nat) (v4I : Int32) (s0I : Int32) (s1R : Nat) (s2I : Int32) (s3I : Int32) (σ : AM) : Option (Int32 × AM) := lp (F_Lw_law L xs) (3, v1R, v2R, v3R, v4I, s0I, 0, 0, s1R, s2I, s3I, σ)
noncomputable def L_Lw_law_4 (L : Nat) (xs : Nat → Int32) (v1R : Nat) (v2R : Nat) (v3R : Nat) (v4I : Int32) (σ : AM) : Option (Int32 × AM) := lp (F_Lw_law L xs) (4, v1R, v2R, v3R, v4I, 0, 0, 0, 0, 0, 0, σ)
noncomputable def L_Lw_law_5 (L : Nat) (xs : Nat → Int32) (v1R : Nat) (v2R : Nat) (v3R : Nat) (v4I : Int32) (s0R : Nat) (s1I : Int32) (s2I : Int32) (σ : AM) : Option (Int32 × AM) := lp (F_Lw_law L xs) (5, v1R, v2R, v3R, v4I, 0, s0R, s1I, 0, s2I, 0, σ)
noncomputable def L_Lw_law_6 (L : Nat) (xs : Nat → Int32) (v1R : Nat) (v2R : Nat) (v3R : Nat) (v4I : Int32) (s0I : Int32) (s1R : Nat) (s2I : Int32) (s3I : Int32) (σ : AM) : Option (Int32 × AM) := lp (F_Lw_law L xs) (6, v1R, v2R, v3R, v4I, s0I, 0, 0, s1R, s2I, s3I, σ)
noncomputable def L_Lw_law_7 (L : Nat) (xs : Nat → Int32) (v1R : Nat) (v2R : Nat) (v3R : Nat) (v4I : Int32) (s0R : Nat) (s1I : Int32) (s2I : Int32) (σ : AM) : Option (Int32 × AM) := lp (F_Lw_law L xs) (7, v1R, v2R, v3R, v4I, 0, s0R, s1I, 0, s2I, 0, σ)
noncomputable def L_Lw_law_8 (L : Nat) (xs : Nat → Int32) (v1R : Nat) (v2R : Nat) (v3R : Nat) (v4I : Int32) (s0I : Int32) (s1R : Nat) (s2I : Int32) (s3I : Int32) (σ : AM) : Option (Int32 × AM) := lp (F_Lw_law L xs) (8, v1R, v2R, v3R, v4I, s0I, 0, 0, s1R, s2I, s3I, σ)
noncomputable def L_Lw_law_9 (L : Nat) (xs : Nat → Int32) (v1R : Nat) (v2R : Nat) (v3R : Nat) (v4I : Int32) (σ : AM) : Option (Int32 × AM) := lp (F_Lw_law L xs) (9, v1R, v2R, v3R, v4I, 0, 0, 0, 0, 0, 0, σ)
set_option maxRecDepth 20000 in
theorem E_Lw_law_0 (L : Nat) (xs : Nat → Int32)  (σ : AM) : L_Lw_law_0 L xs  σ = (letT (nw σ 11 12) fun σ1 => letT (aZ σ) fun x3 => gd (okO σ1 x3 11) <| bnd (M_Bp_init x3 σ1) fun _ σ5 => letT (nw σ5 12 76) fun σ7 => letT (aZ σ5) fun x9 => gd (okO σ7 x9 12) <| bnd (M_Md_init x9 σ7) fun _ σ11 => letT (nw σ11 102 (1 : Int32).toNatClampNeg) fun σ13 => letT (aZ σ11) fun x15 => L_Lw_law_1 L xs x3 x9 x15 ((0 : Int32)) σ13) := by
  unfold L_Lw_law_0
  rw [lp_eq]
  show lpK (lp (F_Lw_law L xs)) (T_Lw_law_0 L xs  σ) = _
  unfold T_Lw_law_0
  simp only [lpK_ite, lq_inl, lq_inr, lpK_bnd, lpK_gd, lq_let]
  try rfl
set_option maxRecDepth 20000 in
theorem E_Lw_law_1 (L : Nat) (xs : Nat → Int32) (v1R : Nat) (v2R : Nat) (v3R : Nat) (v4I : Int32) (σ : AM) : L_Lw_law_1 L xs v1R v2R v3R v4I σ = (if ((nI L) - (7 : Int32)) < v4I then ((some ((1 : Int32), σ))) else (gd (inB v4I L) <| letT ((xs v4I.toNatClampNeg) &&& (63 : Int32)) fun x2 => if x2 = (0 : Int32) then (gd (inB (v4I + (1 : Int32)) L) <| gd (inB (v4I + (2 : Int32)) L) <| gd (inB (v4I + (3 : Int32)) L) <| gd (inB (v4I + (4 : Int32)) L) <| gd (inB (v4I + (5 : Int32)) L) <| gd (inB (v4I + (6 : Int32)) L) <| gd (okO σ v1R 11) <| bnd (M_Bp_feed v1R ((((xs (v4I + (1 : Int32)).toNatClampNeg).toInt64) <<< ((32 : Int32).toInt64 &&& 63)) ||| (((xs (v4I + (2 : Int32)).toNatClampNeg).toInt64) &&& (4294967295 : Int64))) ((((xs (v4I + (3 : Int32)).toNatClampNeg).toInt64) <<< ((32 : Int32).toInt64 &&& 63)) ||| (((xs (v4I + (4 : Int32)).toNatClampNeg).toInt64) &&& (4294967295 : Int64))) ((((xs (v4I + (5 : Int32)).toNatClampNeg).toInt64) <<< ((32 : Int32).toInt64 &&& 63)) ||| (((xs (v4I + (6 : Int32)).toNatClampNeg).toInt64) &&& (4294967295 : Int64))) σ) fun r10 σ11 => gd (inB (v4I + (1 : Int32)) L) <| gd (inB (v4I + (2 : Int32)) L) <| gd (inB (v4I + (3 : Int32)) L) <| gd (inB (v4I + (4 : Int32)) L) <| gd (inB (v4I + (5 : Int32)) L) <| gd (inB (v4I + (6 : Int32)) L) <| gd (okO σ11 v2R 12) <| bnd (M_Md_feed v2R ((((xs (v4I + (1 : Int32)).toNatClampNeg).toInt64) <<< ((32 : Int32).toInt64 &&& 63)) ||| (((xs (v4I + (2 : Int32)).toNatClampNeg).toInt64) &&& (4294967295 : Int64))) ((((xs (v4I + (3 : Int32)).toNatClampNeg).toInt64) <<< ((32 : Int32).toInt64 &&& 63)) ||| (((xs (v4I + (4 : Int32)).toNatClampNeg).toInt64) &&& (4294967295 : Int64))) ((((xs (v4I + (5 : Int32)).toNatClampNeg).toInt64) <<< ((32 : Int32).toInt64 &&& 63)) ||| (((xs (v4I + (6 : Int32)).toNatClampNeg).toInt64) &&& (4294967295 : Int64))) σ11) fun r19 σ20 => if r10 = r19 then (L_Lw_law_9 L xs v1R v2R v3R v4I σ20) else ((some ((0 : Int32), σ20)))) else (if x2 = (1 : Int32) then (gd (okO σ v1R 11) <| bnd (M_Bp_tower v1R σ) fun r23 σ24 => gd (okO σ24 v2R 12) <| bnd (M_Md_tower v2R σ24) fun r26 σ27 => if r23 = r26 then (L_Lw_law_9 L xs v1R v2R v3R v4I σ27) else ((some ((0 : Int32), σ27)))) else (if x2 = (2 : Int32) then (gd (inB (v4I + (1 : Int32)) L) <| gd (okO σ v1R 11) <| bnd (M_Bp_may v1R (xs (v4I + (1 : Int32)).toNatClampNeg) σ) fun r31 σ32 => gd (inB (v4I + (1 : Int32)) L) <| gd (okO σ32 v2R 12) <| bnd (M_Md_may v2R (xs (v4I + (1 : Int32)).toNatClampNeg) σ32) fun r35 σ36 => if r31 = r35 then (L_Lw_law_9 L xs v1R v2R v3R v4I σ36) else ((some ((0 : Int32), σ36)))) else (if x2 = (3 : Int32) then (gd (inB (v4I + (1 : Int32)) L) <| gd (okO σ v1R 11) <| bnd (M_Bp_list v1R (xs (v4I + (1 : Int32)).toNatClampNeg) σ) fun r40 σ41 => gd (inB (v4I + (1 : Int32)) L) <| gd (okO σ41 v2R 12) <| bnd (M_Md_list v2R (xs (v4I + (1 : Int32)).toNatClampNeg) σ41) fun r44 σ45 => if (lg_cmp r40 r44) = 0 then (L_Lw_law_9 L xs v1R v2R v3R v4I σ45) else ((some ((0 : Int32), σ45)))) else (if x2 = (4 : Int32) then (gd (inB (v4I + (1 : Int32)) L) <| gd (okO σ v1R 11) <| bnd (M_Bp_cost v1R (xs (v4I + (1 : Int32)).toNatClampNeg) σ) fun r49 σ50 => gd (inB (v4I + (1 : Int32)) L) <| gd (okO σ50 v2R 12) <| bnd (M_Md_cost v2R (xs (v4I + (1 : Int32)).toNatClampNeg) σ50) fun r53 σ54 => if r49 = r53 then (L_Lw_law_9 L xs v1R v2R v3R v4I σ54) else ((some ((0 : Int32), σ54)))) else (if x2 = (5 : Int32) then (gd (inB (v4I + (1 : Int32)) L) <| gd (inB (v4I + (2 : Int32)) L) <| if (xs (v4I + (2 : Int32)).toNatClampNeg) = 0 then (L_Lw_law_2 L xs v1R v2R v3R v4I v1R (xs (v4I + (1 : Int32)).toNatClampNeg) ((0 : Int32)) σ) else (L_Lw_law_2 L xs v1R v2R v3R v4I v1R (xs (v4I + (1 : Int32)).toNatClampNeg) ((1 : Int32)) σ)) else (if x2 = (6 : Int32) then (gd (inB (v4I + (1 : Int32)) L) <| gd (inB (v4I + (2 : Int32)) L) <| gd (okO σ v1R 11) <| bnd (M_Bp_hint v1R (xs (v4I + (1 : Int32)).toNatClampNeg) (xs (v4I + (2 : Int32)).toNatClampNeg) σ) fun r62 σ63 => gd (inB (v4I + (1 : Int32)) L) <| gd (inB (v4I + (2 : Int32)) L) <| gd (okO σ63 v2R 12) <| bnd (M_Md_hint v2R (xs (v4I + (1 : Int32)).toNatClampNeg) (xs (v4I + (2 : Int32)).toNatClampNeg) σ63) fun r67 σ68 => if r62 = r67 then (L_Lw_law_9 L xs v1R v2R v3R v4I σ68) else ((some ((0 : Int32), σ68)))) else (if x2 = (7 : Int32) then (gd (inB (v4I + (1 : Int32)) L) <| gd (okO σ v1R 11) <| bnd (M_Bp_left v1R (xs (v4I + (1 : Int32)).toNatClampNeg) σ) fun r72 σ73 => gd (inB (v4I + (1 : Int32)) L) <| gd (okO σ73 v2R 12) <| bnd (M_Md_left v2R (xs (v4I + (1 : Int32)).toNatClampNeg) σ73) fun r76 σ77 => if r72 = r76 then (L_Lw_law_9 L xs v1R v2R v3R v4I σ77) else ((some ((0 : Int32), σ77)))) else (if x2 = (8 : Int32) then (gd (inB (v4I + (1 : Int32)) L) <| gd (okO σ v1R 11) <| bnd (M_Bp_sure v1R (xs (v4I + (1 : Int32)).toNatClampNeg) σ) fun r81 σ82 => gd (inB (v4I + (1 : Int32)) L) <| gd (okO σ82 v2R 12) <| bnd (M_Md_sure v2R (xs (v4I + (1 : Int32)).toNatClampNeg) σ82) fun r85 σ86 => if r81 = r85 then (L_Lw_law_9 L xs v1R v2R v3R v4I σ86) else ((some ((0 : Int32), σ86)))) else (if x2 = (9 : Int32) then (gd (inB (v4I + (1 : Int32)) L) <| gd (okO σ v1R 11) <| bnd (M_Bp_matters v1R (xs (v4I + (1 : Int32)).toNatClampNeg) σ) fun r90 σ91 => gd (inB (v4I + (1 : Int32)) L) <| gd (okO σ91 v2R 12) <| bnd (M_Md_matters v2R (xs (v4I + (1 : Int32)).toNatClampNeg) σ91) fun r94 σ95 => if r90 = r94 then (L_Lw_law_9 L xs v1R v2R v3R v4I σ95) else ((some ((0 : Int32), σ95)))) else (if x2 = (10 : Int32) then (gd (inB (v4I + (1 : Int32)) L) <| gd (inB (v4I + (2 : Int32)) L) <| gd (okO σ v1R 11) <| bnd (M_Bp_alike v1R (xs (v4I + (1 : Int32)).toNatClampNeg) (xs (v4I + (2 : Int32)).toNatClampNeg) σ) fun r100 σ101 => gd (inB (v4I + (1 : Int32)) L) <| gd (inB (v4I + (2 : Int32)) L) <| gd (okO σ101 v2R 12) <| bnd (M_Md_alike v2R (xs (v4I + (1 : Int32)).toNatClampNeg) (xs (v4I + (2 : Int32)).toNatClampNeg) σ101) fun r105 σ106 => if r100 = r105 then (L_Lw_law_9 L xs v1R v2R v3R v4I σ106) else ((some ((0 : Int32), σ106)))) else (if x2 = (11 : Int32) then (gd (inB (v4I + (1 : Int32)) L) <| gd (okO σ v1R 11) <| bnd (M_Bp_next v1R (xs (v4I + (1 : Int32)).toNatClampNeg) σ) fun r110 σ111 => gd (inB (v4I + (1 : Int32)) L) <| gd (okO σ111 v2R 12) <| bnd (M_Md_next v2R (xs (v4I + (1 : Int32)).toNatClampNeg) σ111) fun r114 σ115 => if r110 = r114 then (L_Lw_law_9 L xs v1R v2R v3R v4I σ115) else ((some ((0 : Int32), σ115)))) else (if x2 = (12 : Int32) then (gd (inB (v4I + (1 : Int32)) L) <| gd (okO σ v1R 11) <| bnd (M_Bp_fewest v1R (xs (v4I + (1 : Int32)).toNatClampNeg) σ) fun r119 σ120 => gd (inB (v4I + (1 : Int32)) L) <| gd (okO σ120 v2R 12) <| bnd (M_Md_fewest v2R (xs (v4I + (1 : Int32)).toNatClampNeg) σ120) fun r123 σ124 => if r119 = r123 then (L_Lw_law_9 L xs v1R v2R v3R v4I σ124) else ((some ((0 : Int32), σ124)))) else (if x2 = (13 : Int32) then (gd (inB (v4I + (1 : Int32)) L) <| gd (inB (v4I + (2 : Int32)) L) <| gd (inB (v4I + (3 : Int32)) L) <| gd (okO σ v1R 11) <| bnd (M_Bp_fewestFor v1R (xs (v4I + (1 : Int32)).toNatClampNeg) (xs (v4I + (2 : Int32)).toNatClampNeg) (xs (v4I + (3 : Int32)).toNatClampNeg) σ) fun r130 σ131 => gd (inB (v4I + (1 : Int32)) L) <| gd (inB (v4I + (2 : Int32)) L) <| gd (inB (v4I + (3 : Int32)) L) <| gd (okO σ131 v2R 12) <| bnd (M_Md_fewestFor v2R (xs (v4I + (1 : Int32)).toNatClampNeg) (xs (v4I + (2 : Int32)).toNatClampNeg) (xs (v4I + (3 : Int32)).toNatClampNeg) σ131) fun r136 σ137 => if r130 = r136 then (L_Lw_law_9 L xs v1R v2R v3R v4I σ137) else ((some ((0 : Int32), σ137)))) else (if x2 = (14 : Int32) then (gd (inB (v4I + (1 : Int32)) L) <| gd (inB (v4I + (2 : Int32)) L) <| gd (inB (v4I + (3 : Int32)) L) <| bnd (M_Lw_run v1R (xs (v4I + (1 : Int32)).toNatClampNeg) (xs (v4I + (2 : Int32)).toNatClampNeg) (xs (v4I + (3 : Int32)).toNatClampNeg) v3R σ) fun r143 σ144 => gd (inB (v4I + (1 : Int32)) L) <| gd (inB (v4I + (2 : Int32)) L) <| gd (inB (v4I + (3 : Int32)) L) <| gd (okO σ144 v2R 12) <| bnd (M_Md_run v2R (xs (v4I + (1 : Int32)).toNatClampNeg) (xs (v4I + (2 : Int32)).toNatClampNeg) (xs (v4I + (3 : Int32)).toNatClampNeg) σ144) fun r148 σ149 => gd (okO σ149 v2R 12) <| bnd (M_Md_thrown v2R σ149) fun r151 σ152 => if r151 = r143 then (if r143 = 0 then (gd (okO σ152 v3R 102) <| gd (inB (0 : Int32) (aN σ152 v3R)) <| if (lg_cmp (aL σ152 v3R (0 : Int32).toNatClampNeg) (r148.toInt64)) = 0 then (L_Lw_law_4 L xs v1R v2R v3R v4I σ152) else ((some ((0 : Int32), σ152)))) else (L_Lw_law_4 L xs v1R v2R v3R v4I σ152)) else ((some ((0 : Int32), σ152)))) else (if x2 = (15 : Int32) then (gd (inB (v4I + (1 : Int32)) L) <| gd (inB (v4I + (2 : Int32)) L) <| gd (inB (v4I + (3 : Int32)) L) <| gd (okO σ v1R 11) <| bnd (M_Bp_runSet v1R (xs (v4I + (1 : Int32)).toNatClampNeg) (xs (v4I + (2 : Int32)).toNatClampNeg) (xs (v4I + (3 : Int32)).toNatClampNeg) σ) fun r160 σ161 => gd (inB (v4I + (1 : Int32)) L) <| gd (inB (v4I + (2 : Int32)) L) <| gd (inB (v4I + (3 : Int32)) L) <| gd (okO σ161 v2R 12) <| bnd (M_Md_runSet v2R (xs (v4I + (1 : Int32)).toNatClampNeg) (xs (v4I + (2 : Int32)).toNatClampNeg) (xs (v4I + (3 : Int32)).toNatClampNeg) σ161) fun r166 σ167 => if r160 = r166 then (L_Lw_law_9 L xs v1R v2R v3R v4I σ167) else ((some ((0 : Int32), σ167)))) else (if x2 = (16 : Int32) then (gd (inB (v4I + (1 : Int32)) L) <| gd (okO σ v1R 11) <| bnd (M_Bp_worst v1R (xs (v4I + (1 : Int32)).toNatClampNeg) σ) fun r171 σ172 => gd (inB (v4I + (1 : Int32)) L) <| gd (okO σ172 v2R 12) <| bnd (M_Md_worst v2R (xs (v4I + (1 : Int32)).toNatClampNeg) σ172) fun r175 σ176 => if r171 = r175 then (L_Lw_law_9 L xs v1R v2R v3R v4I σ176) else ((some ((0 : Int32), σ176)))) else (if x2 = (17 : Int32) then (gd (inB (v4I + (1 : Int32)) L) <| gd (inB (v4I + (2 : Int32)) L) <| gd (okO σ v1R 11) <| bnd (M_Bp_mean v1R (xs (v4I + (1 : Int32)).toNatClampNeg) (xs (v4I + (2 : Int32)).toNatClampNeg) σ) fun r181 σ182 => gd (inB (v4I + (1 : Int32)) L) <| gd (inB (v4I + (2 : Int32)) L) <| gd (okO σ182 v2R 12) <| bnd (M_Md_mean v2R (xs (v4I + (1 : Int32)).toNatClampNeg) (xs (v4I + (2 : Int32)).toNatClampNeg) σ182) fun r186 σ187 => if r181 = r186 then (L_Lw_law_9 L xs v1R v2R v3R v4I σ187) else ((some ((0 : Int32), σ187)))) else (if x2 = (18 : Int32) then (gd (inB (v4I + (1 : Int32)) L) <| gd (okO σ v1R 11) <| bnd (M_Bp_smallest v1R (xs (v4I + (1 : Int32)).toNatClampNeg) σ) fun r191 σ192 => gd (inB (v4I + (1 : Int32)) L) <| gd (okO σ192 v2R 12) <| bnd (M_Md_smallest v2R (xs (v4I + (1 : Int32)).toNatClampNeg) σ192) fun r195 σ196 => if r191 = r195 then (L_Lw_law_9 L xs v1R v2R v3R v4I σ196) else ((some ((0 : Int32), σ196)))) else (if x2 = (19 : Int32) then (gd (inB (v4I + (1 : Int32)) L) <| gd (okO σ v1R 11) <| bnd (M_Bp_cannot v1R (xs (v4I + (1 : Int32)).toNatClampNeg) σ) fun r200 σ201 => gd (inB (v4I + (1 : Int32)) L) <| gd (okO σ201 v2R 12) <| bnd (M_Md_cannot v2R (xs (v4I + (1 : Int32)).toNatClampNeg) σ201) fun r204 σ205 => if r200 = r204 then (L_Lw_law_9 L xs v1R v2R v3R v4I σ205) else ((some ((0 : Int32), σ205)))) else (if x2 = (20 : Int32) then (gd (inB (v4I + (1 : Int32)) L) <| gd (okO σ v1R 11) <| bnd (M_Bp_wrong v1R (xs (v4I + (1 : Int32)).toNatClampNeg) σ) fun r209 σ210 => gd (inB (v4I + (1 : Int32)) L) <| gd (okO σ210 v2R 12) <| bnd (M_Md_wrong v2R (xs (v4I + (1 : Int32)).toNatClampNeg) σ210) fun r213 σ214 => if r209 = r213 then (L_Lw_law_9 L xs v1R v2R v3R v4I σ214) else ((some ((0 : Int32), σ214)))) else (if x2 = (21 : Int32) then (gd (inB (v4I + (1 : Int32)) L) <| gd (okO σ v1R 11) <| bnd (M_Bp_suspect v1R (xs (v4I + (1 : Int32)).toNatClampNeg) σ) fun r218 σ219 => gd (inB (v4I + (1 : Int32)) L) <| gd (okO σ219 v2R 12) <| bnd (M_Md_suspect v2R (xs (v4I + (1 : Int32)).toNatClampNeg) σ219) fun r222 σ223 => if r218 = r222 then (L_Lw_law_9 L xs v1R v2R v3R v4I σ223) else ((some ((0 : Int32), σ223)))) else (if x2 = (22 : Int32) then (gd (inB (v4I + (1 : Int32)) L) <| gd (okO σ v1R 11) <| bnd (M_Bp_with v1R (xs (v4I + (1 : Int32)).toNatClampNeg) σ) fun r227 σ228 => gd (inB (v4I + (1 : Int32)) L) <| gd (okO σ228 v2R 12) <| bnd (M_Md_with v2R (xs (v4I + (1 : Int32)).toNatClampNeg) σ228) fun r231 σ232 => if r227 = r231 then (L_Lw_law_9 L xs v1R v2R v3R v4I σ232) else ((some ((0 : Int32), σ232)))) else (if x2 = (23 : Int32) then (gd (inB (v4I + (1 : Int32)) L) <| gd (okO σ v1R 11) <| bnd (M_Bp_grown v1R (xs (v4I + (1 : Int32)).toNatClampNeg) σ) fun r236 σ237 => gd (inB (v4I + (1 : Int32)) L) <| gd (okO σ237 v2R 12) <| bnd (M_Md_grown v2R (xs (v4I + (1 : Int32)).toNatClampNeg) σ237) fun r240 σ241 => if r236 = r240 then (L_Lw_law_9 L xs v1R v2R v3R v4I σ241) else ((some ((0 : Int32), σ241)))) else (if x2 = (24 : Int32) then (gd (okO σ v1R 11) <| bnd (M_Bp_bells v1R σ) fun r244 σ245 => gd (okO σ245 v2R 12) <| bnd (M_Md_bells v2R σ245) fun r247 σ248 => if r244 = r247 then (L_Lw_law_9 L xs v1R v2R v3R v4I σ248) else ((some ((0 : Int32), σ248)))) else (if x2 = (25 : Int32) then (gd (inB (v4I + (1 : Int32)) L) <| gd (inB (v4I + (2 : Int32)) L) <| gd (okO σ v1R 11) <| bnd (M_Bp_late v1R (xs (v4I + (1 : Int32)).toNatClampNeg) (xs (v4I + (2 : Int32)).toNatClampNeg) σ) fun r253 σ254 => gd (inB (v4I + (1 : Int32)) L) <| gd (inB (v4I + (2 : Int32)) L) <| gd (okO σ254 v2R 12) <| bnd (M_Md_late v2R (xs (v4I + (1 : Int32)).toNatClampNeg) (xs (v4I + (2 : Int32)).toNatClampNeg) σ254) fun r258 σ259 => if r253 = r258 then (L_Lw_law_9 L xs v1R v2R v3R v4I σ259) else ((some ((0 : Int32), σ259)))) else (if x2 = (26 : Int32) then (gd (inB (v4I + (1 : Int32)) L) <| gd (okO σ v1R 11) <| bnd (M_Bp_often v1R (xs (v4I + (1 : Int32)).toNatClampNeg) σ) fun r263 σ264 => gd (inB (v4I + (1 : Int32)) L) <| gd (okO σ264 v2R 12) <| bnd (M_Md_often v2R (xs (v4I + (1 : Int32)).toNatClampNeg) σ264) fun r267 σ268 => if r263 = r267 then (L_Lw_law_9 L xs v1R v2R v3R v4I σ268) else ((some ((0 : Int32), σ268)))) else (if x2 = (27 : Int32) then (gd (inB (v4I + (1 : Int32)) L) <| gd (okO σ v1R 11) <| bnd (M_Bp_rings v1R (xs (v4I + (1 : Int32)).toNatClampNeg) σ) fun r272 σ273 => gd (inB (v4I + (1 : Int32)) L) <| gd (okO σ273 v2R 12) <| bnd (M_Md_rings v2R (xs (v4I + (1 : Int32)).toNatClampNeg) σ273) fun r276 σ277 => if r272 = r276 then (L_Lw_law_9 L xs v1R v2R v3R v4I σ277) else ((some ((0 : Int32), σ277)))) else (if x2 = (28 : Int32) then (gd (inB (v4I + (1 : Int32)) L) <| gd (inB (v4I + (2 : Int32)) L) <| gd (inB (v4I + (3 : Int32)) L) <| gd (okO σ v1R 11) <| bnd (M_Bp_vote v1R (xs (v4I + (1 : Int32)).toNatClampNeg) (xs (v4I + (2 : Int32)).toNatClampNeg) (xs (v4I + (3 : Int32)).toNatClampNeg) σ) fun r283 σ284 => gd (inB (v4I + (1 : Int32)) L) <| gd (inB (v4I + (2 : Int32)) L) <| gd (inB (v4I + (3 : Int32)) L) <| gd (okO σ284 v2R 12) <| bnd (M_Md_vote v2R (xs (v4I + (1 : Int32)).toNatClampNeg) (xs (v4I + (2 : Int32)).toNatClampNeg) (xs (v4I + (3 : Int32)).toNatClampNeg) σ284) fun r289 σ290 => if r283 = r289 then (L_Lw_law_9 L xs v1R v2R v3R v4I σ290) else ((some ((0 : Int32), σ290)))) else (if x2 = (29 : Int32) then (gd (inB (v4I + (1 : Int32)) L) <| gd (inB (v4I + (2 : Int32)) L) <| gd (okO σ v1R 11) <| bnd (M_Bp_swings v1R (xs (v4I + (1 : Int32)).toNatClampNeg) (xs (v4I + (2 : Int32)).toNatClampNeg) σ) fun r295 σ296 => gd (inB (v4I + (1 : Int32)) L) <| gd (inB (v4I + (2 : Int32)) L) <| gd (okO σ296 v2R 12) <| bnd (M_Md_swings v2R (xs (v4I + (1 : Int32)).toNatClampNeg) (xs (v4I + (2 : Int32)).toNatClampNeg) σ296) fun r300 σ301 => if r295 = r300 then (L_Lw_law_9 L xs v1R v2R v3R v4I σ301) else ((some ((0 : Int32), σ301)))) else (if x2 = (30 : Int32) then (gd (inB (v4I + (1 : Int32)) L) <| gd (inB (v4I + (2 : Int32)) L) <| if (xs (v4I + (2 : Int32)).toNatClampNeg) = 0 then (L_Lw_law_5 L xs v1R v2R v3R v4I v1R (xs (v4I + (1 : Int32)).toNatClampNeg) ((0 : Int32)) σ) else (L_Lw_law_5 L xs v1R v2R v3R v4I v1R (xs (v4I + (1 : Int32)).toNatClampNeg) ((1 : Int32)) σ)) else (if x2 = (31 : Int32) then (gd (inB (v4I + (1 : Int32)) L) <| gd (inB (v4I + (2 : Int32)) L) <| gd (okO σ v1R 11) <| bnd (M_Bp_leastSet v1R (xs (v4I + (1 : Int32)).toNatClampNeg) (xs (v4I + (2 : Int32)).toNatClampNeg) σ) fun r309 σ310 => gd (inB (v4I + (1 : Int32)) L) <| gd (inB (v4I + (2 : Int32)) L) <| gd (okO σ310 v2R 12) <| bnd (M_Md_leastSet v2R (xs (v4I + (1 : Int32)).toNatClampNeg) (xs (v4I + (2 : Int32)).toNatClampNeg) σ310) fun r314 σ315 => if r309 = r314 then (L_Lw_law_9 L xs v1R v2R v3R v4I σ315) else ((some ((0 : Int32), σ315)))) else (if x2 = (32 : Int32) then (gd (inB (v4I + (1 : Int32)) L) <| gd (okO σ v1R 11) <| bnd (M_Bp_vetoes v1R (xs (v4I + (1 : Int32)).toNatClampNeg) σ) fun r319 σ320 => gd (inB (v4I + (1 : Int32)) L) <| gd (okO σ320 v2R 12) <| bnd (M_Md_vetoes v2R (xs (v4I + (1 : Int32)).toNatClampNeg) σ320) fun r323 σ324 => if r319 = r323 then (L_Lw_law_9 L xs v1R v2R v3R v4I σ324) else ((some ((0 : Int32), σ324)))) else (if x2 = (33 : Int32) then (gd (inB (v4I + (1 : Int32)) L) <| gd (inB (v4I + (2 : Int32)) L) <| gd (okO σ v1R 11) <| bnd (M_Bp_same v1R (xs (v4I + (1 : Int32)).toNatClampNeg) (xs (v4I + (2 : Int32)).toNatClampNeg) σ) fun r329 σ330 => gd (inB (v4I + (1 : Int32)) L) <| gd (inB (v4I + (2 : Int32)) L) <| gd (okO σ330 v2R 12) <| bnd (M_Md_same v2R (xs (v4I + (1 : Int32)).toNatClampNeg) (xs (v4I + (2 : Int32)).toNatClampNeg) σ330) fun r334 σ335 => if r329 = r334 then (L_Lw_law_9 L xs v1R v2R v3R v4I σ335) else ((some ((0 : Int32), σ335)))) else (if x2 = (34 : Int32) then (gd (inB (v4I + (1 : Int32)) L) <| gd (okO σ v1R 11) <| bnd (M_Bp_lay v1R (xs (v4I + (1 : Int32)).toNatClampNeg) σ) fun r339 σ340 => gd (inB (v4I + (1 : Int32)) L) <| gd (okO σ340 v2R 12) <| bnd (M_Md_lay v2R (xs (v4I + (1 : Int32)).toNatClampNeg) σ340) fun r343 σ344 => if r339 = r343 then (L_Lw_law_9 L xs v1R v2R v3R v4I σ344) else ((some ((0 : Int32), σ344)))) else (if x2 = (35 : Int32) then (gd (okO σ v1R 11) <| bnd (M_Bp_clear v1R σ) fun r347 σ348 => gd (okO σ348 v2R 12) <| bnd (M_Md_clear v2R σ348) fun r350 σ351 => if r347 = r350 then (L_Lw_law_9 L xs v1R v2R v3R v4I σ351) else ((some ((0 : Int32), σ351)))) else (if x2 = (36 : Int32) then (gd (inB (v4I + (1 : Int32)) L) <| gd (okO σ v1R 11) <| bnd (M_Bp_feather v1R (xs (v4I + (1 : Int32)).toNatClampNeg) σ) fun r355 σ356 => gd (inB (v4I + (1 : Int32)) L) <| gd (okO σ356 v2R 12) <| bnd (M_Md_feather v2R (xs (v4I + (1 : Int32)).toNatClampNeg) σ356) fun r359 σ360 => if r355 = r359 then (L_Lw_law_9 L xs v1R v2R v3R v4I σ360) else ((some ((0 : Int32), σ360)))) else (if x2 = (37 : Int32) then (gd (inB (v4I + (1 : Int32)) L) <| gd (inB (v4I + (2 : Int32)) L) <| gd (okO σ v1R 11) <| bnd (M_Bp_odds v1R (xs (v4I + (1 : Int32)).toNatClampNeg) (xs (v4I + (2 : Int32)).toNatClampNeg) σ) fun r365 σ366 => gd (inB (v4I + (1 : Int32)) L) <| gd (inB (v4I + (2 : Int32)) L) <| gd (okO σ366 v2R 12) <| bnd (M_Md_odds v2R (xs (v4I + (1 : Int32)).toNatClampNeg) (xs (v4I + (2 : Int32)).toNatClampNeg) σ366) fun r370 σ371 => if r365 = r370 then (L_Lw_law_9 L xs v1R v2R v3R v4I σ371) else ((some ((0 : Int32), σ371)))) else (if x2 = (38 : Int32) then (gd (inB (v4I + (1 : Int32)) L) <| gd (inB (v4I + (2 : Int32)) L) <| gd (okO σ v1R 11) <| bnd (M_Bp_guess v1R (xs (v4I + (1 : Int32)).toNatClampNeg) (xs (v4I + (2 : Int32)).toNatClampNeg) σ) fun r376 σ377 => gd (inB (v4I + (1 : Int32)) L) <| gd (inB (v4I + (2 : Int32)) L) <| gd (okO σ377 v2R 12) <| bnd (M_Md_guess v2R (xs (v4I + (1 : Int32)).toNatClampNeg) (xs (v4I + (2 : Int32)).toNatClampNeg) σ377) fun r381 σ382 => if r376 = r381 then (L_Lw_law_9 L xs v1R v2R v3R v4I σ382) else ((some ((0 : Int32), σ382)))) else (if x2 = (39 : Int32) then (gd (inB (v4I + (1 : Int32)) L) <| gd (inB (v4I + (2 : Int32)) L) <| if (xs (v4I + (2 : Int32)).toNatClampNeg) = 0 then (L_Lw_law_7 L xs v1R v2R v3R v4I v1R (xs (v4I + (1 : Int32)).toNatClampNeg) ((0 : Int32)) σ) else (L_Lw_law_7 L xs v1R v2R v3R v4I v1R (xs (v4I + (1 : Int32)).toNatClampNeg) ((1 : Int32)) σ)) else (if x2 = (40 : Int32) then (gd (inB (v4I + (1 : Int32)) L) <| gd (okO σ v1R 11) <| bnd (M_Bp_count v1R (xs (v4I + (1 : Int32)).toNatClampNeg) σ) fun r389 σ390 => gd (inB (v4I + (1 : Int32)) L) <| gd (okO σ390 v2R 12) <| bnd (M_Md_count v2R (xs (v4I + (1 : Int32)).toNatClampNeg) σ390) fun r393 σ394 => if r389 = r393 then (L_Lw_law_9 L xs v1R v2R v3R v4I σ394) else ((some ((0 : Int32), σ394)))) else (L_Lw_law_9 L xs v1R v2R v3R v4I σ))))))))))))))))))))))))))))))))))))))))))) := by
  unfold L_Lw_law_1
  rw [lp_eq]
  show lpK (lp (F_Lw_law L xs)) (T_Lw_law_1 L xs v1R v2R v3R v4I σ) = _
  unfold T_Lw_law_1
  simp only [lpK_ite, lq_inl, lq_inr, lpK_bnd, lpK_gd, lq_let]
  try rfl
set_option maxRecDepth 20000 in
theorem E_Lw_law_2 (L : Nat) (xs : Nat → Int32) (v1R : Nat) (v2R : Nat) (v3R : Nat) (v4I : Int32) (s0R : Nat) (s1I : Int32) (s2I : Int32) (σ : AM) : L_Lw_law_2 L xs v1R v2R v3R v4I s0R s1I s2I σ = (gd (okO σ s0R 11) <| bnd (M_Bp_trial s0R s1I s2I σ) fun r1 σ2 => gd (inB (v4I + (1 : Int32)) L) <| gd (inB (v4I + (2 : Int32)) L) <| if (xs (v4I + (2 : Int32)).toNatClampNeg) = 0 then (L_Lw_law_3 L xs v1R v2R v3R v4I r1 v2R (xs (v4I + (1 : Int32)).toNatClampNeg) ((0 : Int32)) σ2) else (L_Lw_law_3 L xs v1R v2R v3R v4I r1 v2R (xs (v4I + (1 : Int32)).toNatClampNeg) ((1 : Int32)) σ2)) := by
  unfold L_Lw_law_2
  rw [lp_eq]
  show lpK (lp (F_Lw_law L xs)) (T_Lw_law_2 L xs v1R v2R v3R v4I s0R s1I s2I σ) = _
  unfold T_Lw_law_2
  simp only [lpK_ite, lq_inl, lq_inr, lpK_bnd, lpK_gd, lq_let]
  try rfl
set_option maxRecDepth 20000 in
theorem E_Lw_law_3 (L : Nat) (xs : Nat → Int32) (v1R : Nat) (v2R : Nat) (v3R : Nat) (v4I : Int32) (s0I : Int32) (s1R : Nat) (s2I : Int32) (s3I : Int32) (σ : AM) : L_Lw_law_3 L xs v1R v2R v3R v4I s0I s1R s2I s3I σ = (gd (okO σ s1R 12) <| bnd (M_Md_trial s1R s2I s3I σ) fun r1 σ2 => if s0I = r1 then (L_Lw_law_9 L xs v1R v2R v3R v4I σ2) else ((some ((0 : Int32), σ2)))) := by
  unfold L_Lw_law_3
  rw [lp_eq]
  show lpK (lp (F_Lw_law L xs)) (T_Lw_law_3 L xs v1R v2R v3R v4I s0I s1R s2I s3I σ) = _
  unfold T_Lw_law_3
  simp only [lpK_ite, lq_inl, lq_inr, lpK_bnd, lpK_gd, lq_let]
  try rfl
set_option maxRecDepth 20000 in
theorem E_Lw_law_4 (L : Nat) (xs : Nat → Int32) (v1R : Nat) (v2R : Nat) (v3R : Nat) (v4I : Int32) (σ : AM) : L_Lw_law_4 L xs v1R v2R v3R v4I σ = (L_Lw_law_9 L xs v1R v2R v3R v4I σ) := by
  unfold L_Lw_law_4
  rw [lp_eq]
  show lpK (lp (F_Lw_law L xs)) (T_Lw_law_4 L xs v1R v2R v3R v4I σ) = _
  unfold T_Lw_law_4
  simp only [lpK_ite, lq_inl, lq_inr, lpK_bnd, lpK_gd, lq_let]
  try rfl
set_option maxRecDepth 20000 in
theorem E_Lw_law_5 (L : Nat) (xs : Nat → Int32) (v1R : Nat) (v2R : Nat) (v3R : Nat) (v4I : Int32) (s0R : Nat) (s1I : Int32) (s2I : Int32) (σ : AM) : L_Lw_law_5 L xs v1R v2R v3R v4I s0R s1I s2I σ = (gd (inB (v4I + (3 : Int32)) L) <| gd (okO σ s0R 11) <| bnd (M_Bp_heavy s0R s1I s2I (xs (v4I + (3 : Int32)).toNatClampNeg) σ) fun r2 σ3 => gd (inB (v4I + (1 : Int32)) L) <| gd (inB (v4I + (2 : Int32)) L) <| if (xs (v4I + (2 : Int32)).toNatClampNeg) = 0 then (L_Lw_law_6 L xs v1R v2R v3R v4I r2 v2R (xs (v4I + (1 : Int32)).toNatClampNeg) ((0 : Int32)) σ3) else (L_Lw_law_6 L xs v1R v2R v3R v4I r2 v2R (xs (v4I + (1 : Int32)).toNatClampNeg) ((1 : Int32)) σ3)) := by
  unfold L_Lw_law_5
  rw [lp_eq]
  show lpK (lp (F_Lw_law L xs)) (T_Lw_law_5 L xs v1R v2R v3R v4I s0R s1I s2I σ) = _
  unfold T_Lw_law_5
  simp only [lpK_ite, lq_inl, lq_inr, lpK_bnd, lpK_gd, lq_let]
  try rfl
set_option maxRecDepth 20000 in
theorem E_Lw_law_6 (L : Nat) (xs : Nat → Int32) (v1R : Nat) (v2R : Nat) (v3R : Nat) (v4I : Int32) (s0I : Int32) (s1R : Nat) (s2I : Int32) (s3I : Int32) (σ : AM) : L_Lw_law_6 L xs v1R v2R v3R v4I s0I s1R s2I s3I σ = (gd (inB (v4I + (3 : Int32)) L) <| gd (okO σ s1R 12) <| bnd (M_Md_heavy s1R s2I s3I (xs (v4I + (3 : Int32)).toNatClampNeg) σ) fun r2 σ3 => if s0I = r2 then (L_Lw_law_9 L xs v1R v2R v3R v4I σ3) else ((some ((0 : Int32), σ3)))) := by
  unfold L_Lw_law_6
  rw [lp_eq]
  show lpK (lp (F_Lw_law L xs)) (T_Lw_law_6 L xs v1R v2R v3R v4I s0I s1R s2I s3I σ) = _
  unfold T_Lw_law_6
  simp only [lpK_ite, lq_inl, lq_inr, lpK_bnd, lpK_gd, lq_let]
  try rfl
set_option maxRecDepth 20000 in
theorem E_Lw_law_7 (L : Nat) (xs : Nat → Int32) (v1R : Nat) (v2R : Nat) (v3R : Nat) (v4I : Int32) (s0R : Nat) (s1I : Int32) (s2I : Int32) (σ : AM) : L_Lw_law_7 L xs v1R v2R v3R v4I s0R s1I s2I σ = (gd (okO σ s0R 11) <| bnd (M_Bp_mark s0R s1I s2I σ) fun r1 σ2 => gd (inB (v4I + (1 : Int32)) L) <| gd (inB (v4I + (2 : Int32)) L) <| if (xs (v4I + (2 : Int32)).toNatClampNeg) = 0 then (L_Lw_law_8 L xs v1R v2R v3R v4I r1 v2R (xs (v4I + (1 : Int32)).toNatClampNeg) ((0 : Int32)) σ2) else (L_Lw_law_8 L xs v1R v2R v3R v4I r1 v2R (xs (v4I + (1 : Int32)).toNatClampNeg) ((1 : Int32)) σ2)) := by
  unfold L_Lw_law_7
  rw [lp_eq]
  show lpK (lp (F_Lw_law L xs)) (T_Lw_law_7 L xs v1R v2R v3R v4I s0R s1I s2I σ) = _
  unfold T_Lw_law_7
  simp only [lpK_ite, lq_inl, lq_inr, lpK_bnd, lpK_gd, lq_let]
  try rfl
set_option maxRecDepth 20000 in
theorem E_Lw_law_8 (L : Nat) (xs : Nat → Int32) (v1R : Nat) (v2R : Nat) (v3R : Nat) (v4I : Int32) (s0I : Int32) (s1R : Nat) (s2I : Int32) (s3I : Int32) (σ : AM) : L_Lw_law_8 L xs v1R v2R v3R v4I s0I s1R s2I s3I σ = (gd (okO σ s1R 12) <| bnd (M_Md_mark s1R s2I s3I σ) fun r1 σ2 => if s0I = r1 then (L_Lw_law_9 L xs v1R v2R v3R v4I σ2) else ((some ((0 : Int32), σ2)))) := by
  unfold L_Lw_law_8
  rw [lp_eq]
  show lpK (lp (F_Lw_law L xs)) (T_Lw_law_8 L xs v1R v2R v3R v4I s0I s1R s2I s3I σ) = _
  unfold T_Lw_law_8
  simp only [lpK_ite, lq_inl, lq_inr, lpK_bnd, lpK_gd, lq_let]
  try rfl
set_option maxRecDepth 20000 in
theorem E_Lw_law_9 (L : Nat) (xs : Nat → Int32) (v1R : Nat) (v2R : Nat) (v3R : Nat) (v4I : Int32) (σ : AM) : L_Lw_law_9 L xs v1R v2R v3R v4I σ = (L_Lw_law_1 L xs v1R v2R v3R (v4I + (7 : Int32)) σ) := by
  unfold L_Lw_law_9
  rw [lp_eq]
  show lpK (lp (F_Lw_law L xs)) (T_Lw_law_9 L xs v1R v2R v3R v4I σ) = _
  unfold T_Lw_law_9
  simp only [lpK_ite, lq_inl, lq_inr, lpK_bnd, lpK_gd, lq_let]
  try rfl
noncomputable def M_Lw_law (L : Nat) (xs : Nat → Int32)  (σ : AM) : Option (Int32 × AM) := mw σ (L_Lw_law_0 L xs  σ)
def I_Lw_law (G : GX) (p : Program) (l : Launch) (e : Env) (s : State) (m : MethodId) (args : Array Value) (below : List Frame) (meth : Method) (c : Code) (b L : Nat) (xs : Nat → Int32) (z0 u0 n : Nat) : Prop :=
  (∀ (σ : AM), VX (QM eI G args s below z0 u0) G p l e s m args below meth c 200 z0 u0 7 (lpn (F_Lw_law L xs) n (0, 0, 0, 0, 0, 0, 0, 0, 0, 0, 0, σ)) 0 [(0, .ref b)] [] σ) ∧
  (∀ (v1R : Nat) (v2R : Nat) (v3R : Nat) (v4I : Int32) (σ : AM), VX (QM eI G args s below z0 u0) G p l e s m args below meth c 200 z0 u0 7 (lpn (F_Lw_law L xs) n (1, v1R, v2R, v3R, v4I, 0, 0, 0, 0, 0, 0, σ)) 23 [(0, .ref b), (1, .ref v1R), (2, .ref v2R), (3, .ref v3R), (4, .int v4I)] [] σ) ∧
  (∀ (v1R : Nat) (v2R : Nat) (v3R : Nat) (v4I : Int32) (s0R : Nat) (s1I : Int32) (s2I : Int32) (σ : AM), VX (QM eI G args s below z0 u0) G p l e s m args below meth c 200 z0 u0 7 (lpn (F_Lw_law L xs) n (2, v1R, v2R, v3R, v4I, 0, s0R, s1I, 0, s2I, 0, σ)) 477 [(0, .ref b), (1, .ref v1R), (2, .ref v2R), (3, .ref v3R), (4, .int v4I)] [.int s2I, .int s1I, .ref s0R] σ) ∧
  (∀ (v1R : Nat) (v2R : Nat) (v3R : Nat) (v4I : Int32) (s0I : Int32) (s1R : Nat) (s2I : Int32) (s3I : Int32) (σ : AM), VX (QM eI G args s below z0 u0) G p l e s m args below meth c 200 z0 u0 7 (lpn (F_Lw_law L xs) n (3, v1R, v2R, v3R, v4I, s0I, 0, 0, s1R, s2I, s3I, σ)) 501 [(0, .ref b), (1, .ref v1R), (2, .ref v2R), (3, .ref v3R), (4, .int v4I)] [.int s3I, .int s2I, .ref s1R, .int s0I] σ) ∧
  (∀ (v1R : Nat) (v2R : Nat) (v3R : Nat) (v4I : Int32) (σ : AM), VX (QM eI G args s below z0 u0) G p l e s m args below meth c 200 z0 u0 7 (lpn (F_Lw_law L xs) n (4, v1R, v2R, v3R, v4I, 0, 0, 0, 0, 0, 0, σ)) 834 [(0, .ref b), (1, .ref v1R), (2, .ref v2R), (3, .ref v3R), (4, .int v4I)] [] σ) ∧
  (∀ (v1R : Nat) (v2R : Nat) (v3R : Nat) (v4I : Int32) (s0R : Nat) (s1I : Int32) (s2I : Int32) (σ : AM), VX (QM eI G args s below z0 u0) G p l e s m args below meth c 200 z0 u0 7 (lpn (F_Lw_law L xs) n (5, v1R, v2R, v3R, v4I, 0, s0R, s1I, 0, s2I, 0, σ)) 1305 [(0, .ref b), (1, .ref v1R), (2, .ref v2R), (3, .ref v3R), (4, .int v4I)] [.int s2I, .int s1I, .ref s0R] σ) ∧
  (∀ (v1R : Nat) (v2R : Nat) (v3R : Nat) (v4I : Int32) (s0I : Int32) (s1R : Nat) (s2I : Int32) (s3I : Int32) (σ : AM), VX (QM eI G args s below z0 u0) G p l e s m args below meth c 200 z0 u0 7 (lpn (F_Lw_law L xs) n (6, v1R, v2R, v3R, v4I, s0I, 0, 0, s1R, s2I, s3I, σ)) 1335 [(0, .ref b), (1, .ref v1R), (2, .ref v2R), (3, .ref v3R), (4, .int v4I)] [.int s3I, .int s2I, .ref s1R, .int s0I] σ) ∧
  (∀ (v1R : Nat) (v2R : Nat) (v3R : Nat) (v4I : Int32) (s0R : Nat) (s1I : Int32) (s2I : Int32) (σ : AM), VX (QM eI G args s below z0 u0) G p l e s m args below meth c 200 z0 u0 7 (lpn (F_Lw_law L xs) n (7, v1R, v2R, v3R, v4I, 0, s0R, s1I, 0, s2I, 0, σ)) 1606 [(0, .ref b), (1, .ref v1R), (2, .ref v2R), (3, .ref v3R), (4, .int v4I)] [.int s2I, .int s1I, .ref s0R] σ) ∧
  (∀ (v1R : Nat) (v2R : Nat) (v3R : Nat) (v4I : Int32) (s0I : Int32) (s1R : Nat) (s2I : Int32) (s3I : Int32) (σ : AM), VX (QM eI G args s below z0 u0) G p l e s m args below meth c 200 z0 u0 7 (lpn (F_Lw_law L xs) n (8, v1R, v2R, v3R, v4I, s0I, 0, 0, s1R, s2I, s3I, σ)) 1630 [(0, .ref b), (1, .ref v1R), (2, .ref v2R), (3, .ref v3R), (4, .int v4I)] [.int s3I, .int s2I, .ref s1R, .int s0I] σ) ∧
  (∀ (v1R : Nat) (v2R : Nat) (v3R : Nat) (v4I : Int32) (σ : AM), VX (QM eI G args s below z0 u0) G p l e s m args below meth c 200 z0 u0 7 (lpn (F_Lw_law L xs) n (9, v1R, v2R, v3R, v4I, 0, 0, 0, 0, 0, 0, σ)) 1663 [(0, .ref b), (1, .ref v1R), (2, .ref v2R), (3, .ref v3R), (4, .int v4I)] [] σ)
set_option maxRecDepth 20000 in
theorem s_Lw_law_0 {G : GX} {p : Program} {l : Launch} {e : Env} {s : State} {m : MethodId} {args : Array Value} {below : List Frame} {meth : Method} {c : Code} {z0 u0 n : Nat} (C : Cx G p s m args meth c code 7 "BellPlateLaw" ((some FieldType.boolean))) {b L : Nat} {xs : Nat → Int32} (hX : va_X b L xs s G.2.2.1) (hbl : b < G.2.1) (hE : EX G s G.2.2.1) (hlt : l.stackTraces = false) (IH : I_Lw_law G p l e s m args below meth c b L xs z0 u0 n)  (σ : AM) : VX (QM eI G args s below z0 u0) G p l e s m args below meth c 200 z0 u0 7 (lpK (lpn (F_Lw_law L xs) n) (T_Lw_law_0 L xs  σ)) 0 [(0, .ref b)] [] σ := by
  unfold T_Lw_law_0
  refine x_new C (ci := 10) rfl j10_ok y10_ok f10_ok w147 w148 w120 d_Lw_law_0 ?_
  refine x_letS (fun σ1 e2 => ?_)
  refine x_letR (fun x3 _ => ?_)
  refine x_dup C d_Lw_law_3 rfl ?_
  refine x_gd (fun h6 => ?_)
  refine x_callIV (As := []) C (c_Bp_init G l x3  σ1) (okO_iff.mp h6) rfl w150 rfl rfl w149 w151 w120 k_Bp_init rfl (by decide) (by decide) rfl (Nat.le_of_ble_eq_true rfl) d_Lw_law_4 (fun r4 σ5 => ?_)
  refine x_astore_n (lv' := [(1, .ref x3), (0, .ref b)]) C d_Lw_law_7 (by decide) rfl rfl ?_
  refine x_new C (ci := 11) rfl j11_ok y11_ok f11_ok w1796 w1794 w134 d_Lw_law_8 ?_
  refine x_letS (fun σ7 e8 => ?_)
  refine x_letR (fun x9 _ => ?_)
  refine x_dup C d_Lw_law_11 rfl ?_
  refine x_gd (fun h12 => ?_)
  refine x_callIV (As := []) C (c_Md_init G l x9  σ7) (okO_iff.mp h12) rfl w1798 rfl rfl w1797 w1799 w134 k_Md_init rfl (by decide) (by decide) rfl (Nat.le_of_ble_eq_true rfl) d_Lw_law_12 (fun r10 σ11 => ?_)
  refine x_astore_n (lv' := [(2, .ref x9), (1, .ref x3), (0, .ref b)]) C d_Lw_law_15 (by decide) rfl rfl ?_
  refine x_iconst (v := (1 : Int32)) C d_Lw_law_16 (by decide) ?_
  refine x_newaJ C w202 (by decide) (by decide) d_Lw_law_17 ?_
  refine x_letS (fun σ13 e14 => ?_)
  refine x_letR (fun x15 _ => ?_)
  refine x_astore_n (lv' := [(3, .ref x15), (2, .ref x9), (1, .ref x3), (0, .ref b)]) C d_Lw_law_19 (by decide) rfl rfl ?_
  refine x_iconst (v := (0 : Int32)) C d_Lw_law_20 (by decide) ?_
  refine x_istore (lv' := [(4, .int (0 : Int32)), (3, .ref x15), (2, .ref x9), (1, .ref x3), (0, .ref b)]) C d_Lw_law_21 (by decide) rfl ?_
  refine x_lv [4, 3, 2, 1, 0] rfl ?_
  exact IH.2.1 x3 x9 x15 ((0 : Int32)) (σ13)
set_option maxRecDepth 20000 in
theorem s_Lw_law_1 {G : GX} {p : Program} {l : Launch} {e : Env} {s : State} {m : MethodId} {args : Array Value} {below : List Frame} {meth : Method} {c : Code} {z0 u0 n : Nat} (C : Cx G p s m args meth c code 7 "BellPlateLaw" ((some FieldType.boolean))) {b L : Nat} {xs : Nat → Int32} (hX : va_X b L xs s G.2.2.1) (hbl : b < G.2.1) (hE : EX G s G.2.2.1) (hlt : l.stackTraces = false) (IH : I_Lw_law G p l e s m args below meth c b L xs z0 u0 n) (v1R : Nat) (v2R : Nat) (v3R : Nat) (v4I : Int32) (σ : AM) : VX (QM eI G args s below z0 u0) G p l e s m args below meth c 200 z0 u0 7 (lpK (lpn (F_Lw_law L xs) n) (T_Lw_law_1 L xs v1R v2R v3R v4I σ)) 23 [(0, .ref b), (1, .ref v1R), (2, .ref v2R), (3, .ref v3R), (4, .int v4I)] [] σ := by
  unfold T_Lw_law_1
  refine x_iload C d_Lw_law_23 4 rfl ?_
  refine x_aload_n C d_Lw_law_25 0 rfl ?_
  refine x_scn C hX hbl d_Lw_law_26 ?_
  refine x_bipush (v := (7 : Int32)) C d_Lw_law_27 (by decide) ?_
  refine x_isub C d_Lw_law_29 ?_
  refine x_icmp_gt (tgt := 1669) C d_Lw_law_30 (by decide) (fun _ => ?_) (fun _ => ?_)
  · refine x_iconst (v := (1 : Int32)) C d_Lw_law_1669 (by decide) ?_
    exact x_zret C (by decide) d_Lw_law_1670
  · refine x_aload_n C d_Lw_law_33 0 rfl ?_
    refine x_iload C d_Lw_law_34 4 rfl ?_
    refine x_gd (fun h1 => ?_)
    refine x_scl C hX hbl (inB_iff.mp h1) d_Lw_law_36 ?_
    refine x_bipush (v := (63 : Int32)) C d_Lw_law_37 (by decide) ?_
    refine x_iand C d_Lw_law_39 ?_
    refine x_letI (fun x2 _ => ?_)
    refine x_split (fun h3 => ?_) (fun h3 => ?_)
    · refine x_tabI (tgt := 220) C h3 d_Lw_law_40 (by decide) (by decide) rfl (by decide) ?_
      refine x_aload_n C d_Lw_law_220 1 rfl ?_
      refine x_aload_n C d_Lw_law_221 0 rfl ?_
      refine x_iload C d_Lw_law_222 4 rfl ?_
      refine x_iconst (v := (1 : Int32)) C d_Lw_law_224 (by decide) ?_
      refine x_iadd C d_Lw_law_225 ?_
      refine x_gd (fun h4 => ?_)
      refine x_scl C hX hbl (inB_iff.mp h4) d_Lw_law_226 ?_
      refine x_i2l C d_Lw_law_227 ?_
      refine x_bipush (v := (32 : Int32)) C d_Lw_law_228 (by decide) ?_
      refine x_lshl C d_Lw_law_230 ?_
      refine x_aload_n C d_Lw_law_231 0 rfl ?_
      refine x_iload C d_Lw_law_232 4 rfl ?_
      refine x_iconst (v := (2 : Int32)) C d_Lw_law_234 (by decide) ?_
      refine x_iadd C d_Lw_law_235 ?_
      refine x_gd (fun h5 => ?_)
      refine x_scl C hX hbl (inB_iff.mp h5) d_Lw_law_236 ?_
      refine x_i2l C d_Lw_law_237 ?_
      refine x_ldc2 C d_Lw_law_238 w2508 ?_
      refine x_land C d_Lw_law_241 ?_
      refine x_lor C d_Lw_law_242 ?_
      refine x_aload_n C d_Lw_law_243 0 rfl ?_
      refine x_iload C d_Lw_law_244 4 rfl ?_
      refine x_iconst (v := (3 : Int32)) C d_Lw_law_246 (by decide) ?_
      refine x_iadd C d_Lw_law_247 ?_
      refine x_gd (fun h6 => ?_)
      refine x_scl C hX hbl (inB_iff.mp h6) d_Lw_law_248 ?_
      refine x_i2l C d_Lw_law_249 ?_
      refine x_bipush (v := (32 : Int32)) C d_Lw_law_250 (by decide) ?_
      refine x_lshl C d_Lw_law_252 ?_
      refine x_aload_n C d_Lw_law_253 0 rfl ?_
      refine x_iload C d_Lw_law_254 4 rfl ?_
      refine x_iconst (v := (4 : Int32)) C d_Lw_law_256 (by decide) ?_
      refine x_iadd C d_Lw_law_257 ?_
      refine x_gd (fun h7 => ?_)
      refine x_scl C hX hbl (inB_iff.mp h7) d_Lw_law_258 ?_
      refine x_i2l C d_Lw_law_259 ?_
      refine x_ldc2 C d_Lw_law_260 w2508 ?_
      refine x_land C d_Lw_law_263 ?_
      refine x_lor C d_Lw_law_264 ?_
      refine x_aload_n C d_Lw_law_265 0 rfl ?_
      refine x_iload C d_Lw_law_266 4 rfl ?_
      refine x_iconst (v := (5 : Int32)) C d_Lw_law_268 (by decide) ?_
      refine x_iadd C d_Lw_law_269 ?_
      refine x_gd (fun h8 => ?_)
      refine x_scl C hX hbl (inB_iff.mp h8) d_Lw_law_270 ?_
      refine x_i2l C d_Lw_law_271 ?_
      refine x_bipush (v := (32 : Int32)) C d_Lw_law_272 (by decide) ?_
      refine x_lshl C d_Lw_law_274 ?_
      refine x_aload_n C d_Lw_law_275 0 rfl ?_
      refine x_iload C d_Lw_law_276 4 rfl ?_
      refine x_bipush (v := (6 : Int32)) C d_Lw_law_278 (by decide) ?_
      refine x_iadd C d_Lw_law_280 ?_
      refine x_gd (fun h9 => ?_)
      refine x_scl C hX hbl (inB_iff.mp h9) d_Lw_law_281 ?_
      refine x_i2l C d_Lw_law_282 ?_
      refine x_ldc2 C d_Lw_law_283 w2508 ?_
      refine x_land C d_Lw_law_286 ?_
      refine x_lor C d_Lw_law_287 ?_
      refine x_gd (fun h12 => ?_)
      refine x_callVI (As := [.long ((((xs (v4I + (1 : Int32)).toNatClampNeg).toInt64) <<< ((32 : Int32).toInt64 &&& 63)) ||| (((xs (v4I + (2 : Int32)).toNatClampNeg).toInt64) &&& (4294967295 : Int64))), .long ((((xs (v4I + (3 : Int32)).toNatClampNeg).toInt64) <<< ((32 : Int32).toInt64 &&& 63)) ||| (((xs (v4I + (4 : Int32)).toNatClampNeg).toInt64) &&& (4294967295 : Int64))), .long ((((xs (v4I + (5 : Int32)).toNatClampNeg).toInt64) <<< ((32 : Int32).toInt64 &&& 63)) ||| (((xs (v4I + (6 : Int32)).toNatClampNeg).toInt64) &&& (4294967295 : Int64)))]) C (c_Bp_feed G l v1R ((((xs (v4I + (1 : Int32)).toNatClampNeg).toInt64) <<< ((32 : Int32).toInt64 &&& 63)) ||| (((xs (v4I + (2 : Int32)).toNatClampNeg).toInt64) &&& (4294967295 : Int64))) ((((xs (v4I + (3 : Int32)).toNatClampNeg).toInt64) <<< ((32 : Int32).toInt64 &&& 63)) ||| (((xs (v4I + (4 : Int32)).toNatClampNeg).toInt64) &&& (4294967295 : Int64))) ((((xs (v4I + (5 : Int32)).toNatClampNeg).toInt64) <<< ((32 : Int32).toInt64 &&& 63)) ||| (((xs (v4I + (6 : Int32)).toNatClampNeg).toInt64) &&& (4294967295 : Int64))) σ) (okO_iff.mp h12) rfl w728 w729 w727 w730 w120 k_Bp_feed rfl (by decide) (by decide) rfl (Nat.le_of_ble_eq_true rfl) d_Lw_law_288 (fun r10 σ11 => ?_)
      refine x_aload_n C d_Lw_law_291 2 rfl ?_
      refine x_aload_n C d_Lw_law_292 0 rfl ?_
      refine x_iload C d_Lw_law_293 4 rfl ?_
      refine x_iconst (v := (1 : Int32)) C d_Lw_law_295 (by decide) ?_
      refine x_iadd C d_Lw_law_296 ?_
      refine x_gd (fun h13 => ?_)
      refine x_scl C hX hbl (inB_iff.mp h13) d_Lw_law_297 ?_
      refine x_i2l C d_Lw_law_298 ?_
      refine x_bipush (v := (32 : Int32)) C d_Lw_law_299 (by decide) ?_
      refine x_lshl C d_Lw_law_301 ?_
      refine x_aload_n C d_Lw_law_302 0 rfl ?_
      refine x_iload C d_Lw_law_303 4 rfl ?_
      refine x_iconst (v := (2 : Int32)) C d_Lw_law_305 (by decide) ?_
      refine x_iadd C d_Lw_law_306 ?_
      refine x_gd (fun h14 => ?_)
      refine x_scl C hX hbl (inB_iff.mp h14) d_Lw_law_307 ?_
      refine x_i2l C d_Lw_law_308 ?_
      refine x_ldc2 C d_Lw_law_309 w2508 ?_
      refine x_land C d_Lw_law_312 ?_
      refine x_lor C d_Lw_law_313 ?_
      refine x_aload_n C d_Lw_law_314 0 rfl ?_
      refine x_iload C d_Lw_law_315 4 rfl ?_
      refine x_iconst (v := (3 : Int32)) C d_Lw_law_317 (by decide) ?_
      refine x_iadd C d_Lw_law_318 ?_
      refine x_gd (fun h15 => ?_)
      refine x_scl C hX hbl (inB_iff.mp h15) d_Lw_law_319 ?_
      refine x_i2l C d_Lw_law_320 ?_
      refine x_bipush (v := (32 : Int32)) C d_Lw_law_321 (by decide) ?_
      refine x_lshl C d_Lw_law_323 ?_
      refine x_aload_n C d_Lw_law_324 0 rfl ?_
      refine x_iload C d_Lw_law_325 4 rfl ?_
      refine x_iconst (v := (4 : Int32)) C d_Lw_law_327 (by decide) ?_
      refine x_iadd C d_Lw_law_328 ?_
      refine x_gd (fun h16 => ?_)
      refine x_scl C hX hbl (inB_iff.mp h16) d_Lw_law_329 ?_
      refine x_i2l C d_Lw_law_330 ?_
      refine x_ldc2 C d_Lw_law_331 w2508 ?_
      refine x_land C d_Lw_law_334 ?_
      refine x_lor C d_Lw_law_335 ?_
      refine x_aload_n C d_Lw_law_336 0 rfl ?_
      refine x_iload C d_Lw_law_337 4 rfl ?_
      refine x_iconst (v := (5 : Int32)) C d_Lw_law_339 (by decide) ?_
      refine x_iadd C d_Lw_law_340 ?_
      refine x_gd (fun h17 => ?_)
      refine x_scl C hX hbl (inB_iff.mp h17) d_Lw_law_341 ?_
      refine x_i2l C d_Lw_law_342 ?_
      refine x_bipush (v := (32 : Int32)) C d_Lw_law_343 (by decide) ?_
      refine x_lshl C d_Lw_law_345 ?_
      refine x_aload_n C d_Lw_law_346 0 rfl ?_
      refine x_iload C d_Lw_law_347 4 rfl ?_
      refine x_bipush (v := (6 : Int32)) C d_Lw_law_349 (by decide) ?_
      refine x_iadd C d_Lw_law_351 ?_
      refine x_gd (fun h18 => ?_)
      refine x_scl C hX hbl (inB_iff.mp h18) d_Lw_law_352 ?_
      refine x_i2l C d_Lw_law_353 ?_
      refine x_ldc2 C d_Lw_law_354 w2508 ?_
      refine x_land C d_Lw_law_357 ?_
      refine x_lor C d_Lw_law_358 ?_
      refine x_gd (fun h21 => ?_)
      refine x_callVI (As := [.long ((((xs (v4I + (1 : Int32)).toNatClampNeg).toInt64) <<< ((32 : Int32).toInt64 &&& 63)) ||| (((xs (v4I + (2 : Int32)).toNatClampNeg).toInt64) &&& (4294967295 : Int64))), .long ((((xs (v4I + (3 : Int32)).toNatClampNeg).toInt64) <<< ((32 : Int32).toInt64 &&& 63)) ||| (((xs (v4I + (4 : Int32)).toNatClampNeg).toInt64) &&& (4294967295 : Int64))), .long ((((xs (v4I + (5 : Int32)).toNatClampNeg).toInt64) <<< ((32 : Int32).toInt64 &&& 63)) ||| (((xs (v4I + (6 : Int32)).toNatClampNeg).toInt64) &&& (4294967295 : Int64)))]) C (c_Md_feed G l v2R ((((xs (v4I + (1 : Int32)).toNatClampNeg).toInt64) <<< ((32 : Int32).toInt64 &&& 63)) ||| (((xs (v4I + (2 : Int32)).toNatClampNeg).toInt64) &&& (4294967295 : Int64))) ((((xs (v4I + (3 : Int32)).toNatClampNeg).toInt64) <<< ((32 : Int32).toInt64 &&& 63)) ||| (((xs (v4I + (4 : Int32)).toNatClampNeg).toInt64) &&& (4294967295 : Int64))) ((((xs (v4I + (5 : Int32)).toNatClampNeg).toInt64) <<< ((32 : Int32).toInt64 &&& 63)) ||| (((xs (v4I + (6 : Int32)).toNatClampNeg).toInt64) &&& (4294967295 : Int64))) σ11) (okO_iff.mp h21) rfl w1788 w1789 w1787 w1790 w134 k_Md_feed rfl (by decide) (by decide) rfl (Nat.le_of_ble_eq_true rfl) d_Lw_law_359 (fun r19 σ20 => ?_)
      refine x_icmp_eq (tgt := 1663) C d_Lw_law_362 (by decide) (fun _ => ?_) (fun _ => ?_)
      · exact IH.2.2.2.2.2.2.2.2.2 v1R v2R v3R v4I (σ20)
      · refine x_iconst (v := (0 : Int32)) C d_Lw_law_365 (by decide) ?_
        exact x_zret C (by decide) d_Lw_law_366
    · refine x_split (fun h22 => ?_) (fun h22 => ?_)
      · refine x_tabI (tgt := 367) C h22 d_Lw_law_40 (by decide) (by decide) rfl (by decide) ?_
        refine x_aload_n C d_Lw_law_367 1 rfl ?_
        refine x_gd (fun h25 => ?_)
        refine x_callVI (As := []) C (c_Bp_tower G l v1R  σ) (okO_iff.mp h25) rfl w741 w742 w740 w743 w120 k_Bp_tower rfl (by decide) (by decide) rfl (Nat.le_of_ble_eq_true rfl) d_Lw_law_368 (fun r23 σ24 => ?_)
        refine x_aload_n C d_Lw_law_371 2 rfl ?_
        refine x_gd (fun h28 => ?_)
        refine x_callVI (As := []) C (c_Md_tower G l v2R  σ24) (okO_iff.mp h28) rfl w2082 w2083 w2081 w2084 w134 k_Md_tower rfl (by decide) (by decide) rfl (Nat.le_of_ble_eq_true rfl) d_Lw_law_372 (fun r26 σ27 => ?_)
        refine x_icmp_eq (tgt := 1663) C d_Lw_law_375 (by decide) (fun _ => ?_) (fun _ => ?_)
        · exact IH.2.2.2.2.2.2.2.2.2 v1R v2R v3R v4I (σ27)
        · refine x_iconst (v := (0 : Int32)) C d_Lw_law_378 (by decide) ?_
          exact x_zret C (by decide) d_Lw_law_379
      · refine x_split (fun h29 => ?_) (fun h29 => ?_)
        · refine x_tabI (tgt := 380) C h29 d_Lw_law_40 (by decide) (by decide) rfl (by decide) ?_
          refine x_aload_n C d_Lw_law_380 1 rfl ?_
          refine x_aload_n C d_Lw_law_381 0 rfl ?_
          refine x_iload C d_Lw_law_382 4 rfl ?_
          refine x_iconst (v := (1 : Int32)) C d_Lw_law_384 (by decide) ?_
          refine x_iadd C d_Lw_law_385 ?_
          refine x_gd (fun h30 => ?_)
          refine x_scl C hX hbl (inB_iff.mp h30) d_Lw_law_386 ?_
          refine x_gd (fun h33 => ?_)
          refine x_callVI (As := [.int (xs (v4I + (1 : Int32)).toNatClampNeg)]) C (c_Bp_may G l v1R (xs (v4I + (1 : Int32)).toNatClampNeg) σ) (okO_iff.mp h33) rfl w974 w975 w973 w976 w120 k_Bp_may rfl (by decide) (by decide) rfl (Nat.le_of_ble_eq_true rfl) d_Lw_law_387 (fun r31 σ32 => ?_)
          refine x_aload_n C d_Lw_law_390 2 rfl ?_
          refine x_aload_n C d_Lw_law_391 0 rfl ?_
          refine x_iload C d_Lw_law_392 4 rfl ?_
          refine x_iconst (v := (1 : Int32)) C d_Lw_law_394 (by decide) ?_
          refine x_iadd C d_Lw_law_395 ?_
          refine x_gd (fun h34 => ?_)
          refine x_scl C hX hbl (inB_iff.mp h34) d_Lw_law_396 ?_
          refine x_gd (fun h37 => ?_)
          refine x_callVI (As := [.int (xs (v4I + (1 : Int32)).toNatClampNeg)]) C (c_Md_may G l v2R (xs (v4I + (1 : Int32)).toNatClampNeg) σ32) (okO_iff.mp h37) rfl w2177 w2178 w2176 w2179 w134 k_Md_may rfl (by decide) (by decide) rfl (Nat.le_of_ble_eq_true rfl) d_Lw_law_397 (fun r35 σ36 => ?_)
          refine x_icmp_eq (tgt := 1663) C d_Lw_law_400 (by decide) (fun _ => ?_) (fun _ => ?_)
          · exact IH.2.2.2.2.2.2.2.2.2 v1R v2R v3R v4I (σ36)
          · refine x_iconst (v := (0 : Int32)) C d_Lw_law_403 (by decide) ?_
            exact x_zret C (by decide) d_Lw_law_404
        · refine x_split (fun h38 => ?_) (fun h38 => ?_)
          · refine x_tabI (tgt := 405) C h38 d_Lw_law_40 (by decide) (by decide) rfl (by decide) ?_
            refine x_aload_n C d_Lw_law_405 1 rfl ?_
            refine x_aload_n C d_Lw_law_406 0 rfl ?_
            refine x_iload C d_Lw_law_407 4 rfl ?_
            refine x_iconst (v := (1 : Int32)) C d_Lw_law_409 (by decide) ?_
            refine x_iadd C d_Lw_law_410 ?_
            refine x_gd (fun h39 => ?_)
            refine x_scl C hX hbl (inB_iff.mp h39) d_Lw_law_411 ?_
            refine x_gd (fun h42 => ?_)
            refine x_callVJ (As := [.int (xs (v4I + (1 : Int32)).toNatClampNeg)]) C (c_Bp_list G l v1R (xs (v4I + (1 : Int32)).toNatClampNeg) σ) (okO_iff.mp h42) rfl w987 w988 w986 w989 w120 k_Bp_list rfl (by decide) (by decide) rfl (Nat.le_of_ble_eq_true rfl) d_Lw_law_412 (fun r40 σ41 => ?_)
            refine x_aload_n C d_Lw_law_415 2 rfl ?_
            refine x_aload_n C d_Lw_law_416 0 rfl ?_
            refine x_iload C d_Lw_law_417 4 rfl ?_
            refine x_iconst (v := (1 : Int32)) C d_Lw_law_419 (by decide) ?_
            refine x_iadd C d_Lw_law_420 ?_
            refine x_gd (fun h43 => ?_)
            refine x_scl C hX hbl (inB_iff.mp h43) d_Lw_law_421 ?_
            refine x_gd (fun h46 => ?_)
            refine x_callVJ (As := [.int (xs (v4I + (1 : Int32)).toNatClampNeg)]) C (c_Md_list G l v2R (xs (v4I + (1 : Int32)).toNatClampNeg) σ41) (okO_iff.mp h46) rfl w2185 w2186 w2184 w2187 w134 k_Md_list rfl (by decide) (by decide) rfl (Nat.le_of_ble_eq_true rfl) d_Lw_law_422 (fun r44 σ45 => ?_)
            refine x_lcmp C d_Lw_law_425 ?_
            refine x_if_eq (tgt := 1663) C d_Lw_law_426 (by decide) (fun _ => ?_) (fun _ => ?_)
            · exact IH.2.2.2.2.2.2.2.2.2 v1R v2R v3R v4I (σ45)
            · refine x_iconst (v := (0 : Int32)) C d_Lw_law_429 (by decide) ?_
              exact x_zret C (by decide) d_Lw_law_430
          · refine x_split (fun h47 => ?_) (fun h47 => ?_)
            · refine x_tabI (tgt := 431) C h47 d_Lw_law_40 (by decide) (by decide) rfl (by decide) ?_
              refine x_aload_n C d_Lw_law_431 1 rfl ?_
              refine x_aload_n C d_Lw_law_432 0 rfl ?_
              refine x_iload C d_Lw_law_433 4 rfl ?_
              refine x_iconst (v := (1 : Int32)) C d_Lw_law_435 (by decide) ?_
              refine x_iadd C d_Lw_law_436 ?_
              refine x_gd (fun h48 => ?_)
              refine x_scl C hX hbl (inB_iff.mp h48) d_Lw_law_437 ?_
              refine x_gd (fun h51 => ?_)
              refine x_callVI (As := [.int (xs (v4I + (1 : Int32)).toNatClampNeg)]) C (c_Bp_cost G l v1R (xs (v4I + (1 : Int32)).toNatClampNeg) σ) (okO_iff.mp h51) rfl w1001 w1002 w1000 w1003 w120 k_Bp_cost rfl (by decide) (by decide) rfl (Nat.le_of_ble_eq_true rfl) d_Lw_law_438 (fun r49 σ50 => ?_)
              refine x_aload_n C d_Lw_law_441 2 rfl ?_
              refine x_aload_n C d_Lw_law_442 0 rfl ?_
              refine x_iload C d_Lw_law_443 4 rfl ?_
              refine x_iconst (v := (1 : Int32)) C d_Lw_law_445 (by decide) ?_
              refine x_iadd C d_Lw_law_446 ?_
              refine x_gd (fun h52 => ?_)
              refine x_scl C hX hbl (inB_iff.mp h52) d_Lw_law_447 ?_
              refine x_gd (fun h55 => ?_)
              refine x_callVI (As := [.int (xs (v4I + (1 : Int32)).toNatClampNeg)]) C (c_Md_cost G l v2R (xs (v4I + (1 : Int32)).toNatClampNeg) σ50) (okO_iff.mp h55) rfl w2189 w2190 w2188 w2191 w134 k_Md_cost rfl (by decide) (by decide) rfl (Nat.le_of_ble_eq_true rfl) d_Lw_law_448 (fun r53 σ54 => ?_)
              refine x_icmp_eq (tgt := 1663) C d_Lw_law_451 (by decide) (fun _ => ?_) (fun _ => ?_)
              · exact IH.2.2.2.2.2.2.2.2.2 v1R v2R v3R v4I (σ54)
              · refine x_iconst (v := (0 : Int32)) C d_Lw_law_454 (by decide) ?_
                exact x_zret C (by decide) d_Lw_law_455
            · refine x_split (fun h56 => ?_) (fun h56 => ?_)
              · refine x_tabI (tgt := 456) C h56 d_Lw_law_40 (by decide) (by decide) rfl (by decide) ?_
                refine x_aload_n C d_Lw_law_456 1 rfl ?_
                refine x_aload_n C d_Lw_law_457 0 rfl ?_
                refine x_iload C d_Lw_law_458 4 rfl ?_
                refine x_iconst (v := (1 : Int32)) C d_Lw_law_460 (by decide) ?_
                refine x_iadd C d_Lw_law_461 ?_
                refine x_gd (fun h57 => ?_)
                refine x_scl C hX hbl (inB_iff.mp h57) d_Lw_law_462 ?_
                refine x_aload_n C d_Lw_law_463 0 rfl ?_
                refine x_iload C d_Lw_law_464 4 rfl ?_
                refine x_iconst (v := (2 : Int32)) C d_Lw_law_466 (by decide) ?_
                refine x_iadd C d_Lw_law_467 ?_
                refine x_gd (fun h58 => ?_)
                refine x_scl C hX hbl (inB_iff.mp h58) d_Lw_law_468 ?_
                refine x_if_eq (tgt := 476) C d_Lw_law_469 (by decide) (fun _ => ?_) (fun _ => ?_)
                · refine x_iconst (v := (0 : Int32)) C d_Lw_law_476 (by decide) ?_
                  exact IH.2.2.1 v1R v2R v3R v4I v1R (xs (v4I + (1 : Int32)).toNatClampNeg) ((0 : Int32)) (σ)
                · refine x_iconst (v := (1 : Int32)) C d_Lw_law_472 (by decide) ?_
                  refine x_goto (tgt := 477) C d_Lw_law_473 (by decide) ?_
                  exact IH.2.2.1 v1R v2R v3R v4I v1R (xs (v4I + (1 : Int32)).toNatClampNeg) ((1 : Int32)) (σ)
              · refine x_split (fun h59 => ?_) (fun h59 => ?_)
                · refine x_tabI (tgt := 509) C h59 d_Lw_law_40 (by decide) (by decide) rfl (by decide) ?_
                  refine x_aload_n C d_Lw_law_509 1 rfl ?_
                  refine x_aload_n C d_Lw_law_510 0 rfl ?_
                  refine x_iload C d_Lw_law_511 4 rfl ?_
                  refine x_iconst (v := (1 : Int32)) C d_Lw_law_513 (by decide) ?_
                  refine x_iadd C d_Lw_law_514 ?_
                  refine x_gd (fun h60 => ?_)
                  refine x_scl C hX hbl (inB_iff.mp h60) d_Lw_law_515 ?_
                  refine x_aload_n C d_Lw_law_516 0 rfl ?_
                  refine x_iload C d_Lw_law_517 4 rfl ?_
                  refine x_iconst (v := (2 : Int32)) C d_Lw_law_519 (by decide) ?_
                  refine x_iadd C d_Lw_law_520 ?_
                  refine x_gd (fun h61 => ?_)
                  refine x_scl C hX hbl (inB_iff.mp h61) d_Lw_law_521 ?_
                  refine x_gd (fun h64 => ?_)
                  refine x_callVI (As := [.int (xs (v4I + (1 : Int32)).toNatClampNeg), .int (xs (v4I + (2 : Int32)).toNatClampNeg)]) C (c_Bp_hint G l v1R (xs (v4I + (1 : Int32)).toNatClampNeg) (xs (v4I + (2 : Int32)).toNatClampNeg) σ) (okO_iff.mp h64) rfl w1022 w1023 w1021 w1024 w120 k_Bp_hint rfl (by decide) (by decide) rfl (Nat.le_of_ble_eq_true rfl) d_Lw_law_522 (fun r62 σ63 => ?_)
                  refine x_aload_n C d_Lw_law_525 2 rfl ?_
                  refine x_aload_n C d_Lw_law_526 0 rfl ?_
                  refine x_iload C d_Lw_law_527 4 rfl ?_
                  refine x_iconst (v := (1 : Int32)) C d_Lw_law_529 (by decide) ?_
                  refine x_iadd C d_Lw_law_530 ?_
                  refine x_gd (fun h65 => ?_)
                  refine x_scl C hX hbl (inB_iff.mp h65) d_Lw_law_531 ?_
                  refine x_aload_n C d_Lw_law_532 0 rfl ?_
                  refine x_iload C d_Lw_law_533 4 rfl ?_
                  refine x_iconst (v := (2 : Int32)) C d_Lw_law_535 (by decide) ?_
                  refine x_iadd C d_Lw_law_536 ?_
                  refine x_gd (fun h66 => ?_)
                  refine x_scl C hX hbl (inB_iff.mp h66) d_Lw_law_537 ?_
                  refine x_gd (fun h69 => ?_)
                  refine x_callVI (As := [.int (xs (v4I + (1 : Int32)).toNatClampNeg), .int (xs (v4I + (2 : Int32)).toNatClampNeg)]) C (c_Md_hint G l v2R (xs (v4I + (1 : Int32)).toNatClampNeg) (xs (v4I + (2 : Int32)).toNatClampNeg) σ63) (okO_iff.mp h69) rfl w2201 w2202 w2200 w2203 w134 k_Md_hint rfl (by decide) (by decide) rfl (Nat.le_of_ble_eq_true rfl) d_Lw_law_538 (fun r67 σ68 => ?_)
                  refine x_icmp_eq (tgt := 1663) C d_Lw_law_541 (by decide) (fun _ => ?_) (fun _ => ?_)
                  · exact IH.2.2.2.2.2.2.2.2.2 v1R v2R v3R v4I (σ68)
                  · refine x_iconst (v := (0 : Int32)) C d_Lw_law_544 (by decide) ?_
                    exact x_zret C (by decide) d_Lw_law_545
                · refine x_split (fun h70 => ?_) (fun h70 => ?_)
                  · refine x_tabI (tgt := 546) C h70 d_Lw_law_40 (by decide) (by decide) rfl (by decide) ?_
                    refine x_aload_n C d_Lw_law_546 1 rfl ?_
                    refine x_aload_n C d_Lw_law_547 0 rfl ?_
                    refine x_iload C d_Lw_law_548 4 rfl ?_
                    refine x_iconst (v := (1 : Int32)) C d_Lw_law_550 (by decide) ?_
                    refine x_iadd C d_Lw_law_551 ?_
                    refine x_gd (fun h71 => ?_)
                    refine x_scl C hX hbl (inB_iff.mp h71) d_Lw_law_552 ?_
                    refine x_gd (fun h74 => ?_)
                    refine x_callVI (As := [.int (xs (v4I + (1 : Int32)).toNatClampNeg)]) C (c_Bp_left G l v1R (xs (v4I + (1 : Int32)).toNatClampNeg) σ) (okO_iff.mp h74) rfl w1031 w1032 w1030 w1033 w120 k_Bp_left rfl (by decide) (by decide) rfl (Nat.le_of_ble_eq_true rfl) d_Lw_law_553 (fun r72 σ73 => ?_)
                    refine x_aload_n C d_Lw_law_556 2 rfl ?_
                    refine x_aload_n C d_Lw_law_557 0 rfl ?_
                    refine x_iload C d_Lw_law_558 4 rfl ?_
                    refine x_iconst (v := (1 : Int32)) C d_Lw_law_560 (by decide) ?_
                    refine x_iadd C d_Lw_law_561 ?_
                    refine x_gd (fun h75 => ?_)
                    refine x_scl C hX hbl (inB_iff.mp h75) d_Lw_law_562 ?_
                    refine x_gd (fun h78 => ?_)
                    refine x_callVI (As := [.int (xs (v4I + (1 : Int32)).toNatClampNeg)]) C (c_Md_left G l v2R (xs (v4I + (1 : Int32)).toNatClampNeg) σ73) (okO_iff.mp h78) rfl w2208 w2209 w2207 w2210 w134 k_Md_left rfl (by decide) (by decide) rfl (Nat.le_of_ble_eq_true rfl) d_Lw_law_563 (fun r76 σ77 => ?_)
                    refine x_icmp_eq (tgt := 1663) C d_Lw_law_566 (by decide) (fun _ => ?_) (fun _ => ?_)
                    · exact IH.2.2.2.2.2.2.2.2.2 v1R v2R v3R v4I (σ77)
                    · refine x_iconst (v := (0 : Int32)) C d_Lw_law_569 (by decide) ?_
                      exact x_zret C (by decide) d_Lw_law_570
                  · refine x_split (fun h79 => ?_) (fun h79 => ?_)
                    · refine x_tabI (tgt := 571) C h79 d_Lw_law_40 (by decide) (by decide) rfl (by decide) ?_
                      refine x_aload_n C d_Lw_law_571 1 rfl ?_
                      refine x_aload_n C d_Lw_law_572 0 rfl ?_
                      refine x_iload C d_Lw_law_573 4 rfl ?_
                      refine x_iconst (v := (1 : Int32)) C d_Lw_law_575 (by decide) ?_
                      refine x_iadd C d_Lw_law_576 ?_
                      refine x_gd (fun h80 => ?_)
                      refine x_scl C hX hbl (inB_iff.mp h80) d_Lw_law_577 ?_
                      refine x_gd (fun h83 => ?_)
                      refine x_callVI (As := [.int (xs (v4I + (1 : Int32)).toNatClampNeg)]) C (c_Bp_sure G l v1R (xs (v4I + (1 : Int32)).toNatClampNeg) σ) (okO_iff.mp h83) rfl w1093 w1094 w1092 w1095 w120 k_Bp_sure rfl (by decide) (by decide) rfl (Nat.le_of_ble_eq_true rfl) d_Lw_law_578 (fun r81 σ82 => ?_)
                      refine x_aload_n C d_Lw_law_581 2 rfl ?_
                      refine x_aload_n C d_Lw_law_582 0 rfl ?_
                      refine x_iload C d_Lw_law_583 4 rfl ?_
                      refine x_iconst (v := (1 : Int32)) C d_Lw_law_585 (by decide) ?_
                      refine x_iadd C d_Lw_law_586 ?_
                      refine x_gd (fun h84 => ?_)
                      refine x_scl C hX hbl (inB_iff.mp h84) d_Lw_law_587 ?_
                      refine x_gd (fun h87 => ?_)
                      refine x_callVI (As := [.int (xs (v4I + (1 : Int32)).toNatClampNeg)]) C (c_Md_sure G l v2R (xs (v4I + (1 : Int32)).toNatClampNeg) σ82) (okO_iff.mp h87) rfl w2242 w2243 w2241 w2244 w134 k_Md_sure rfl (by decide) (by decide) rfl (Nat.le_of_ble_eq_true rfl) d_Lw_law_588 (fun r85 σ86 => ?_)
                      refine x_icmp_eq (tgt := 1663) C d_Lw_law_591 (by decide) (fun _ => ?_) (fun _ => ?_)
                      · exact IH.2.2.2.2.2.2.2.2.2 v1R v2R v3R v4I (σ86)
                      · refine x_iconst (v := (0 : Int32)) C d_Lw_law_594 (by decide) ?_
                        exact x_zret C (by decide) d_Lw_law_595
                    · refine x_split (fun h88 => ?_) (fun h88 => ?_)
                      · refine x_tabI (tgt := 596) C h88 d_Lw_law_40 (by decide) (by decide) rfl (by decide) ?_
                        refine x_aload_n C d_Lw_law_596 1 rfl ?_
                        refine x_aload_n C d_Lw_law_597 0 rfl ?_
                        refine x_iload C d_Lw_law_598 4 rfl ?_
                        refine x_iconst (v := (1 : Int32)) C d_Lw_law_600 (by decide) ?_
                        refine x_iadd C d_Lw_law_601 ?_
                        refine x_gd (fun h89 => ?_)
                        refine x_scl C hX hbl (inB_iff.mp h89) d_Lw_law_602 ?_
                        refine x_gd (fun h92 => ?_)
                        refine x_callVI (As := [.int (xs (v4I + (1 : Int32)).toNatClampNeg)]) C (c_Bp_matters G l v1R (xs (v4I + (1 : Int32)).toNatClampNeg) σ) (okO_iff.mp h92) rfl w1108 w1109 w1107 w1110 w120 k_Bp_matters rfl (by decide) (by decide) rfl (Nat.le_of_ble_eq_true rfl) d_Lw_law_603 (fun r90 σ91 => ?_)
                        refine x_aload_n C d_Lw_law_606 2 rfl ?_
                        refine x_aload_n C d_Lw_law_607 0 rfl ?_
                        refine x_iload C d_Lw_law_608 4 rfl ?_
                        refine x_iconst (v := (1 : Int32)) C d_Lw_law_610 (by decide) ?_
                        refine x_iadd C d_Lw_law_611 ?_
                        refine x_gd (fun h93 => ?_)
                        refine x_scl C hX hbl (inB_iff.mp h93) d_Lw_law_612 ?_
                        refine x_gd (fun h96 => ?_)
                        refine x_callVI (As := [.int (xs (v4I + (1 : Int32)).toNatClampNeg)]) C (c_Md_matters G l v2R (xs (v4I + (1 : Int32)).toNatClampNeg) σ91) (okO_iff.mp h96) rfl w2253 w2254 w2252 w2255 w134 k_Md_matters rfl (by decide) (by decide) rfl (Nat.le_of_ble_eq_true rfl) d_Lw_law_613 (fun r94 σ95 => ?_)
                        refine x_icmp_eq (tgt := 1663) C d_Lw_law_616 (by decide) (fun _ => ?_) (fun _ => ?_)
                        · exact IH.2.2.2.2.2.2.2.2.2 v1R v2R v3R v4I (σ95)
                        · refine x_iconst (v := (0 : Int32)) C d_Lw_law_619 (by decide) ?_
                          exact x_zret C (by decide) d_Lw_law_620
                      · refine x_split (fun h97 => ?_) (fun h97 => ?_)
                        · refine x_tabI (tgt := 621) C h97 d_Lw_law_40 (by decide) (by decide) rfl (by decide) ?_
                          refine x_aload_n C d_Lw_law_621 1 rfl ?_
                          refine x_aload_n C d_Lw_law_622 0 rfl ?_
                          refine x_iload C d_Lw_law_623 4 rfl ?_
                          refine x_iconst (v := (1 : Int32)) C d_Lw_law_625 (by decide) ?_
                          refine x_iadd C d_Lw_law_626 ?_
                          refine x_gd (fun h98 => ?_)
                          refine x_scl C hX hbl (inB_iff.mp h98) d_Lw_law_627 ?_
                          refine x_aload_n C d_Lw_law_628 0 rfl ?_
                          refine x_iload C d_Lw_law_629 4 rfl ?_
                          refine x_iconst (v := (2 : Int32)) C d_Lw_law_631 (by decide) ?_
                          refine x_iadd C d_Lw_law_632 ?_
                          refine x_gd (fun h99 => ?_)
                          refine x_scl C hX hbl (inB_iff.mp h99) d_Lw_law_633 ?_
                          refine x_gd (fun h102 => ?_)
                          refine x_callVI (As := [.int (xs (v4I + (1 : Int32)).toNatClampNeg), .int (xs (v4I + (2 : Int32)).toNatClampNeg)]) C (c_Bp_alike G l v1R (xs (v4I + (1 : Int32)).toNatClampNeg) (xs (v4I + (2 : Int32)).toNatClampNeg) σ) (okO_iff.mp h102) rfl w1141 w1142 w1140 w1143 w120 k_Bp_alike rfl (by decide) (by decide) rfl (Nat.le_of_ble_eq_true rfl) d_Lw_law_634 (fun r100 σ101 => ?_)
                          refine x_aload_n C d_Lw_law_637 2 rfl ?_
                          refine x_aload_n C d_Lw_law_638 0 rfl ?_
                          refine x_iload C d_Lw_law_639 4 rfl ?_
                          refine x_iconst (v := (1 : Int32)) C d_Lw_law_641 (by decide) ?_
                          refine x_iadd C d_Lw_law_642 ?_
                          refine x_gd (fun h103 => ?_)
                          refine x_scl C hX hbl (inB_iff.mp h103) d_Lw_law_643 ?_
                          refine x_aload_n C d_Lw_law_644 0 rfl ?_
                          refine x_iload C d_Lw_law_645 4 rfl ?_
                          refine x_iconst (v := (2 : Int32)) C d_Lw_law_647 (by decide) ?_
                          refine x_iadd C d_Lw_law_648 ?_
                          refine x_gd (fun h104 => ?_)
                          refine x_scl C hX hbl (inB_iff.mp h104) d_Lw_law_649 ?_
                          refine x_gd (fun h107 => ?_)
                          refine x_callVI (As := [.int (xs (v4I + (1 : Int32)).toNatClampNeg), .int (xs (v4I + (2 : Int32)).toNatClampNeg)]) C (c_Md_alike G l v2R (xs (v4I + (1 : Int32)).toNatClampNeg) (xs (v4I + (2 : Int32)).toNatClampNeg) σ101) (okO_iff.mp h107) rfl w2265 w2266 w2264 w2267 w134 k_Md_alike rfl (by decide) (by decide) rfl (Nat.le_of_ble_eq_true rfl) d_Lw_law_650 (fun r105 σ106 => ?_)
                          refine x_icmp_eq (tgt := 1663) C d_Lw_law_653 (by decide) (fun _ => ?_) (fun _ => ?_)
                          · exact IH.2.2.2.2.2.2.2.2.2 v1R v2R v3R v4I (σ106)
                          · refine x_iconst (v := (0 : Int32)) C d_Lw_law_656 (by decide) ?_
                            exact x_zret C (by decide) d_Lw_law_657
                        · refine x_split (fun h108 => ?_) (fun h108 => ?_)
                          · refine x_tabI (tgt := 658) C h108 d_Lw_law_40 (by decide) (by decide) rfl (by decide) ?_
                            refine x_aload_n C d_Lw_law_658 1 rfl ?_
                            refine x_aload_n C d_Lw_law_659 0 rfl ?_
                            refine x_iload C d_Lw_law_660 4 rfl ?_
                            refine x_iconst (v := (1 : Int32)) C d_Lw_law_662 (by decide) ?_
                            refine x_iadd C d_Lw_law_663 ?_
                            refine x_gd (fun h109 => ?_)
                            refine x_scl C hX hbl (inB_iff.mp h109) d_Lw_law_664 ?_
                            refine x_gd (fun h112 => ?_)
                            refine x_callVI (As := [.int (xs (v4I + (1 : Int32)).toNatClampNeg)]) C (c_Bp_next G l v1R (xs (v4I + (1 : Int32)).toNatClampNeg) σ) (okO_iff.mp h112) rfl w1145 w1146 w1144 w1147 w120 k_Bp_next rfl (by decide) (by decide) rfl (Nat.le_of_ble_eq_true rfl) d_Lw_law_665 (fun r110 σ111 => ?_)
                            refine x_aload_n C d_Lw_law_668 2 rfl ?_
                            refine x_aload_n C d_Lw_law_669 0 rfl ?_
                            refine x_iload C d_Lw_law_670 4 rfl ?_
                            refine x_iconst (v := (1 : Int32)) C d_Lw_law_672 (by decide) ?_
                            refine x_iadd C d_Lw_law_673 ?_
                            refine x_gd (fun h113 => ?_)
                            refine x_scl C hX hbl (inB_iff.mp h113) d_Lw_law_674 ?_
                            refine x_gd (fun h116 => ?_)
                            refine x_callVI (As := [.int (xs (v4I + (1 : Int32)).toNatClampNeg)]) C (c_Md_next G l v2R (xs (v4I + (1 : Int32)).toNatClampNeg) σ111) (okO_iff.mp h116) rfl w2273 w2274 w2272 w2275 w134 k_Md_next rfl (by decide) (by decide) rfl (Nat.le_of_ble_eq_true rfl) d_Lw_law_675 (fun r114 σ115 => ?_)
                            refine x_icmp_eq (tgt := 1663) C d_Lw_law_678 (by decide) (fun _ => ?_) (fun _ => ?_)
                            · exact IH.2.2.2.2.2.2.2.2.2 v1R v2R v3R v4I (σ115)
                            · refine x_iconst (v := (0 : Int32)) C d_Lw_law_681 (by decide) ?_
                              exact x_zret C (by decide) d_Lw_law_682
                          · refine x_split (fun h117 => ?_) (fun h117 => ?_)
                            · refine x_tabI (tgt := 683) C h117 d_Lw_law_40 (by decide) (by decide) rfl (by decide) ?_
                              refine x_aload_n C d_Lw_law_683 1 rfl ?_
                              refine x_aload_n C d_Lw_law_684 0 rfl ?_
                              refine x_iload C d_Lw_law_685 4 rfl ?_
                              refine x_iconst (v := (1 : Int32)) C d_Lw_law_687 (by decide) ?_
                              refine x_iadd C d_Lw_law_688 ?_
                              refine x_gd (fun h118 => ?_)
                              refine x_scl C hX hbl (inB_iff.mp h118) d_Lw_law_689 ?_
                              refine x_gd (fun h121 => ?_)
                              refine x_callVI (As := [.int (xs (v4I + (1 : Int32)).toNatClampNeg)]) C (c_Bp_fewest G l v1R (xs (v4I + (1 : Int32)).toNatClampNeg) σ) (okO_iff.mp h121) rfl w1191 w1192 w1190 w1193 w120 k_Bp_fewest rfl (by decide) (by decide) rfl (Nat.le_of_ble_eq_true rfl) d_Lw_law_690 (fun r119 σ120 => ?_)
                              refine x_aload_n C d_Lw_law_693 2 rfl ?_
                              refine x_aload_n C d_Lw_law_694 0 rfl ?_
                              refine x_iload C d_Lw_law_695 4 rfl ?_
                              refine x_iconst (v := (1 : Int32)) C d_Lw_law_697 (by decide) ?_
                              refine x_iadd C d_Lw_law_698 ?_
                              refine x_gd (fun h122 => ?_)
                              refine x_scl C hX hbl (inB_iff.mp h122) d_Lw_law_699 ?_
                              refine x_gd (fun h125 => ?_)
                              refine x_callVI (As := [.int (xs (v4I + (1 : Int32)).toNatClampNeg)]) C (c_Md_fewest G l v2R (xs (v4I + (1 : Int32)).toNatClampNeg) σ120) (okO_iff.mp h125) rfl w2337 w2338 w2336 w2339 w134 k_Md_fewest rfl (by decide) (by decide) rfl (Nat.le_of_ble_eq_true rfl) d_Lw_law_700 (fun r123 σ124 => ?_)
                              refine x_icmp_eq (tgt := 1663) C d_Lw_law_703 (by decide) (fun _ => ?_) (fun _ => ?_)
                              · exact IH.2.2.2.2.2.2.2.2.2 v1R v2R v3R v4I (σ124)
                              · refine x_iconst (v := (0 : Int32)) C d_Lw_law_706 (by decide) ?_
                                exact x_zret C (by decide) d_Lw_law_707
                            · refine x_split (fun h126 => ?_) (fun h126 => ?_)
                              · refine x_tabI (tgt := 708) C h126 d_Lw_law_40 (by decide) (by decide) rfl (by decide) ?_
                                refine x_aload_n C d_Lw_law_708 1 rfl ?_
                                refine x_aload_n C d_Lw_law_709 0 rfl ?_
                                refine x_iload C d_Lw_law_710 4 rfl ?_
                                refine x_iconst (v := (1 : Int32)) C d_Lw_law_712 (by decide) ?_
                                refine x_iadd C d_Lw_law_713 ?_
                                refine x_gd (fun h127 => ?_)
                                refine x_scl C hX hbl (inB_iff.mp h127) d_Lw_law_714 ?_
                                refine x_aload_n C d_Lw_law_715 0 rfl ?_
                                refine x_iload C d_Lw_law_716 4 rfl ?_
                                refine x_iconst (v := (2 : Int32)) C d_Lw_law_718 (by decide) ?_
                                refine x_iadd C d_Lw_law_719 ?_
                                refine x_gd (fun h128 => ?_)
                                refine x_scl C hX hbl (inB_iff.mp h128) d_Lw_law_720 ?_
                                refine x_aload_n C d_Lw_law_721 0 rfl ?_
                                refine x_iload C d_Lw_law_722 4 rfl ?_
                                refine x_iconst (v := (3 : Int32)) C d_Lw_law_724 (by decide) ?_
                                refine x_iadd C d_Lw_law_725 ?_
                                refine x_gd (fun h129 => ?_)
                                refine x_scl C hX hbl (inB_iff.mp h129) d_Lw_law_726 ?_
                                refine x_gd (fun h132 => ?_)
                                refine x_callVI (As := [.int (xs (v4I + (1 : Int32)).toNatClampNeg), .int (xs (v4I + (2 : Int32)).toNatClampNeg), .int (xs (v4I + (3 : Int32)).toNatClampNeg)]) C (c_Bp_fewestFor G l v1R (xs (v4I + (1 : Int32)).toNatClampNeg) (xs (v4I + (2 : Int32)).toNatClampNeg) (xs (v4I + (3 : Int32)).toNatClampNeg) σ) (okO_iff.mp h132) rfl w1195 w1196 w1246 w1197 w120 k_Bp_fewestFor rfl (by decide) (by decide) rfl (Nat.le_of_ble_eq_true rfl) d_Lw_law_727 (fun r130 σ131 => ?_)
                                refine x_aload_n C d_Lw_law_730 2 rfl ?_
                                refine x_aload_n C d_Lw_law_731 0 rfl ?_
                                refine x_iload C d_Lw_law_732 4 rfl ?_
                                refine x_iconst (v := (1 : Int32)) C d_Lw_law_734 (by decide) ?_
                                refine x_iadd C d_Lw_law_735 ?_
                                refine x_gd (fun h133 => ?_)
                                refine x_scl C hX hbl (inB_iff.mp h133) d_Lw_law_736 ?_
                                refine x_aload_n C d_Lw_law_737 0 rfl ?_
                                refine x_iload C d_Lw_law_738 4 rfl ?_
                                refine x_iconst (v := (2 : Int32)) C d_Lw_law_740 (by decide) ?_
                                refine x_iadd C d_Lw_law_741 ?_
                                refine x_gd (fun h134 => ?_)
                                refine x_scl C hX hbl (inB_iff.mp h134) d_Lw_law_742 ?_
                                refine x_aload_n C d_Lw_law_743 0 rfl ?_
                                refine x_iload C d_Lw_law_744 4 rfl ?_
                                refine x_iconst (v := (3 : Int32)) C d_Lw_law_746 (by decide) ?_
                                refine x_iadd C d_Lw_law_747 ?_
                                refine x_gd (fun h135 => ?_)
                                refine x_scl C hX hbl (inB_iff.mp h135) d_Lw_law_748 ?_
                                refine x_gd (fun h138 => ?_)
                                refine x_callVI (As := [.int (xs (v4I + (1 : Int32)).toNatClampNeg), .int (xs (v4I + (2 : Int32)).toNatClampNeg), .int (xs (v4I + (3 : Int32)).toNatClampNeg)]) C (c_Md_fewestFor G l v2R (xs (v4I + (1 : Int32)).toNatClampNeg) (xs (v4I + (2 : Int32)).toNatClampNeg) (xs (v4I + (3 : Int32)).toNatClampNeg) σ131) (okO_iff.mp h138) rfl w2341 w2342 w2364 w2343 w134 k_Md_fewestFor rfl (by decide) (by decide) rfl (Nat.le_of_ble_eq_true rfl) d_Lw_law_749 (fun r136 σ137 => ?_)
                                refine x_icmp_eq (tgt := 1663) C d_Lw_law_752 (by decide) (fun _ => ?_) (fun _ => ?_)
                                · exact IH.2.2.2.2.2.2.2.2.2 v1R v2R v3R v4I (σ137)
                                · refine x_iconst (v := (0 : Int32)) C d_Lw_law_755 (by decide) ?_
                                  exact x_zret C (by decide) d_Lw_law_756
                              · refine x_split (fun h139 => ?_) (fun h139 => ?_)
                                · refine x_tabI (tgt := 757) C h139 d_Lw_law_40 (by decide) (by decide) rfl (by decide) ?_
                                  refine x_aload_n C d_Lw_law_757 1 rfl ?_
                                  refine x_aload_n C d_Lw_law_758 0 rfl ?_
                                  refine x_iload C d_Lw_law_759 4 rfl ?_
                                  refine x_iconst (v := (1 : Int32)) C d_Lw_law_761 (by decide) ?_
                                  refine x_iadd C d_Lw_law_762 ?_
                                  refine x_gd (fun h140 => ?_)
                                  refine x_scl C hX hbl (inB_iff.mp h140) d_Lw_law_763 ?_
                                  refine x_aload_n C d_Lw_law_764 0 rfl ?_
                                  refine x_iload C d_Lw_law_765 4 rfl ?_
                                  refine x_iconst (v := (2 : Int32)) C d_Lw_law_767 (by decide) ?_
                                  refine x_iadd C d_Lw_law_768 ?_
                                  refine x_gd (fun h141 => ?_)
                                  refine x_scl C hX hbl (inB_iff.mp h141) d_Lw_law_769 ?_
                                  refine x_aload_n C d_Lw_law_770 0 rfl ?_
                                  refine x_iload C d_Lw_law_771 4 rfl ?_
                                  refine x_iconst (v := (3 : Int32)) C d_Lw_law_773 (by decide) ?_
                                  refine x_iadd C d_Lw_law_774 ?_
                                  refine x_gd (fun h142 => ?_)
                                  refine x_scl C hX hbl (inB_iff.mp h142) d_Lw_law_775 ?_
                                  refine x_aload_n C d_Lw_law_776 3 rfl ?_
                                  refine x_callW (As := [.ref v1R, .int (xs (v4I + (1 : Int32)).toNatClampNeg), .int (xs (v4I + (2 : Int32)).toNatClampNeg), .int (xs (v4I + (3 : Int32)).toNatClampNeg), .ref v3R]) C hE (c_Lw_run G l hlt v1R (xs (v4I + (1 : Int32)).toNatClampNeg) (xs (v4I + (2 : Int32)).toNatClampNeg) (xs (v4I + (3 : Int32)).toNatClampNeg) v3R σ) w1699 w1698 wcw w119 k_Lw_run rfl (by decide) (by decide) rfl (Nat.le_of_ble_eq_true rfl) d_Lw_law_777 (fun r143 σ144 => ?_)
                                  refine x_istore (lv' := [(5, .int r143), (0, .ref b), (1, .ref v1R), (2, .ref v2R), (3, .ref v3R), (4, .int v4I)]) C d_Lw_law_780 (by decide) rfl ?_
                                  refine x_aload_n C d_Lw_law_782 3 rfl ?_
                                  refine x_aload_n C d_Lw_law_783 1 rfl ?_
                                  refine x_iload C d_Lw_law_784 5 rfl ?_
                                  refine x_iconst (v := (1 : Int32)) C d_Lw_law_786 (by decide) ?_
                                  refine x_iadd C d_Lw_law_787 ?_
                                  refine x_gd (fun h145 => ?_)
                                  refine x_scl C hX hbl (inB_iff.mp h145) d_Lw_law_788 ?_
                                  refine x_aload_n C d_Lw_law_789 1 rfl ?_
                                  refine x_iload C d_Lw_law_790 5 rfl ?_
                                  refine x_iconst (v := (2 : Int32)) C d_Lw_law_792 (by decide) ?_
                                  refine x_iadd C d_Lw_law_793 ?_
                                  refine x_gd (fun h146 => ?_)
                                  refine x_scl C hX hbl (inB_iff.mp h146) d_Lw_law_794 ?_
                                  refine x_aload_n C d_Lw_law_795 1 rfl ?_
                                  refine x_iload C d_Lw_law_796 5 rfl ?_
                                  refine x_iconst (v := (3 : Int32)) C d_Lw_law_798 (by decide) ?_
                                  refine x_iadd C d_Lw_law_799 ?_
                                  refine x_gd (fun h147 => ?_)
                                  refine x_scl C hX hbl (inB_iff.mp h147) d_Lw_law_800 ?_
                                  refine x_gd (fun h150 => ?_)
                                  refine x_callVI (As := [.int (xs (v4I + (1 : Int32)).toNatClampNeg), .int (xs (v4I + (2 : Int32)).toNatClampNeg), .int (xs (v4I + (3 : Int32)).toNatClampNeg)]) C (c_Md_run G l v2R (xs (v4I + (1 : Int32)).toNatClampNeg) (xs (v4I + (2 : Int32)).toNatClampNeg) (xs (v4I + (3 : Int32)).toNatClampNeg) σ144) (okO_iff.mp h150) rfl w2292 w2293 w2291 w2294 w134 k_Md_run rfl (by decide) (by decide) rfl (Nat.le_of_ble_eq_true rfl) d_Lw_law_801 (fun r148 σ149 => ?_)
                                  refine x_istore (lv' := [(6, .int r148), (5, .int r143), (0, .ref b), (1, .ref v1R), (2, .ref v2R), (3, .ref v3R), (4, .int v4I)]) C d_Lw_law_804 (by decide) rfl ?_
                                  refine x_aload_n C d_Lw_law_806 4 rfl ?_
                                  refine x_gd (fun h153 => ?_)
                                  refine x_callVI (As := []) C (c_Md_thrown G l v2R  σ149) (okO_iff.mp h153) rfl w1784 w1785 w1783 w1786 w134 k_Md_thrown rfl (by decide) (by decide) rfl (Nat.le_of_ble_eq_true rfl) d_Lw_law_807 (fun r151 σ152 => ?_)
                                  refine x_iload C d_Lw_law_810 1 rfl ?_
                                  refine x_icmp_eq (tgt := 817) C d_Lw_law_812 (by decide) (fun _ => ?_) (fun _ => ?_)
                                  · refine x_iload C d_Lw_law_817 1 rfl ?_
                                    refine x_if_ne (tgt := 834) C d_Lw_law_819 (by decide) (fun _ => ?_) (fun _ => ?_)
                                    · refine x_aload_n C d_Lw_law_822 5 rfl ?_
                                      refine x_iconst (v := (0 : Int32)) C d_Lw_law_823 (by decide) ?_
                                      refine x_gd (fun h154 => ?_)
                                      refine x_gd (fun h155 => ?_)
                                      refine x_aldJ C (okO_iff.mp h154) (inB_iff.mp h155) d_Lw_law_824 ?_
                                      refine x_iload C d_Lw_law_825 0 rfl ?_
                                      refine x_i2l C d_Lw_law_827 ?_
                                      refine x_lcmp C d_Lw_law_828 ?_
                                      refine x_if_eq (tgt := 834) C d_Lw_law_829 (by decide) (fun _ => ?_) (fun _ => ?_)
                                      · refine x_lv [2, 3, 4, 5, 6] rfl ?_
                                        exact IH.2.2.2.2.1 v1R v2R v3R v4I (σ152)
                                      · refine x_iconst (v := (0 : Int32)) C d_Lw_law_832 (by decide) ?_
                                        exact x_zret C (by decide) d_Lw_law_833
                                    · refine x_lv [2, 3, 4, 5, 6] rfl ?_
                                      exact IH.2.2.2.2.1 v1R v2R v3R v4I (σ152)
                                  · refine x_iconst (v := (0 : Int32)) C d_Lw_law_815 (by decide) ?_
                                    exact x_zret C (by decide) d_Lw_law_816
                                · refine x_split (fun h156 => ?_) (fun h156 => ?_)
                                  · refine x_tabI (tgt := 837) C h156 d_Lw_law_40 (by decide) (by decide) rfl (by decide) ?_
                                    refine x_aload_n C d_Lw_law_837 1 rfl ?_
                                    refine x_aload_n C d_Lw_law_838 0 rfl ?_
                                    refine x_iload C d_Lw_law_839 4 rfl ?_
                                    refine x_iconst (v := (1 : Int32)) C d_Lw_law_841 (by decide) ?_
                                    refine x_iadd C d_Lw_law_842 ?_
                                    refine x_gd (fun h157 => ?_)
                                    refine x_scl C hX hbl (inB_iff.mp h157) d_Lw_law_843 ?_
                                    refine x_aload_n C d_Lw_law_844 0 rfl ?_
                                    refine x_iload C d_Lw_law_845 4 rfl ?_
                                    refine x_iconst (v := (2 : Int32)) C d_Lw_law_847 (by decide) ?_
                                    refine x_iadd C d_Lw_law_848 ?_
                                    refine x_gd (fun h158 => ?_)
                                    refine x_scl C hX hbl (inB_iff.mp h158) d_Lw_law_849 ?_
                                    refine x_aload_n C d_Lw_law_850 0 rfl ?_
                                    refine x_iload C d_Lw_law_851 4 rfl ?_
                                    refine x_iconst (v := (3 : Int32)) C d_Lw_law_853 (by decide) ?_
                                    refine x_iadd C d_Lw_law_854 ?_
                                    refine x_gd (fun h159 => ?_)
                                    refine x_scl C hX hbl (inB_iff.mp h159) d_Lw_law_855 ?_
                                    refine x_gd (fun h162 => ?_)
                                    refine x_callVI (As := [.int (xs (v4I + (1 : Int32)).toNatClampNeg), .int (xs (v4I + (2 : Int32)).toNatClampNeg), .int (xs (v4I + (3 : Int32)).toNatClampNeg)]) C (c_Bp_runSet G l v1R (xs (v4I + (1 : Int32)).toNatClampNeg) (xs (v4I + (2 : Int32)).toNatClampNeg) (xs (v4I + (3 : Int32)).toNatClampNeg) σ) (okO_iff.mp h162) rfl w1248 w1249 w1247 w1250 w120 k_Bp_runSet rfl (by decide) (by decide) rfl (Nat.le_of_ble_eq_true rfl) d_Lw_law_856 (fun r160 σ161 => ?_)
                                    refine x_aload_n C d_Lw_law_859 2 rfl ?_
                                    refine x_aload_n C d_Lw_law_860 0 rfl ?_
                                    refine x_iload C d_Lw_law_861 4 rfl ?_
                                    refine x_iconst (v := (1 : Int32)) C d_Lw_law_863 (by decide) ?_
                                    refine x_iadd C d_Lw_law_864 ?_
                                    refine x_gd (fun h163 => ?_)
                                    refine x_scl C hX hbl (inB_iff.mp h163) d_Lw_law_865 ?_
                                    refine x_aload_n C d_Lw_law_866 0 rfl ?_
                                    refine x_iload C d_Lw_law_867 4 rfl ?_
                                    refine x_iconst (v := (2 : Int32)) C d_Lw_law_869 (by decide) ?_
                                    refine x_iadd C d_Lw_law_870 ?_
                                    refine x_gd (fun h164 => ?_)
                                    refine x_scl C hX hbl (inB_iff.mp h164) d_Lw_law_871 ?_
                                    refine x_aload_n C d_Lw_law_872 0 rfl ?_
                                    refine x_iload C d_Lw_law_873 4 rfl ?_
                                    refine x_iconst (v := (3 : Int32)) C d_Lw_law_875 (by decide) ?_
                                    refine x_iadd C d_Lw_law_876 ?_
                                    refine x_gd (fun h165 => ?_)
                                    refine x_scl C hX hbl (inB_iff.mp h165) d_Lw_law_877 ?_
                                    refine x_gd (fun h168 => ?_)
                                    refine x_callVI (As := [.int (xs (v4I + (1 : Int32)).toNatClampNeg), .int (xs (v4I + (2 : Int32)).toNatClampNeg), .int (xs (v4I + (3 : Int32)).toNatClampNeg)]) C (c_Md_runSet G l v2R (xs (v4I + (1 : Int32)).toNatClampNeg) (xs (v4I + (2 : Int32)).toNatClampNeg) (xs (v4I + (3 : Int32)).toNatClampNeg) σ161) (okO_iff.mp h168) rfl w2308 w2309 w2307 w2310 w134 k_Md_runSet rfl (by decide) (by decide) rfl (Nat.le_of_ble_eq_true rfl) d_Lw_law_878 (fun r166 σ167 => ?_)
                                    refine x_icmp_eq (tgt := 1663) C d_Lw_law_881 (by decide) (fun _ => ?_) (fun _ => ?_)
                                    · exact IH.2.2.2.2.2.2.2.2.2 v1R v2R v3R v4I (σ167)
                                    · refine x_iconst (v := (0 : Int32)) C d_Lw_law_884 (by decide) ?_
                                      exact x_zret C (by decide) d_Lw_law_885
                                  · refine x_split (fun h169 => ?_) (fun h169 => ?_)
                                    · refine x_tabI (tgt := 886) C h169 d_Lw_law_40 (by decide) (by decide) rfl (by decide) ?_
                                      refine x_aload_n C d_Lw_law_886 1 rfl ?_
                                      refine x_aload_n C d_Lw_law_887 0 rfl ?_
                                      refine x_iload C d_Lw_law_888 4 rfl ?_
                                      refine x_iconst (v := (1 : Int32)) C d_Lw_law_890 (by decide) ?_
                                      refine x_iadd C d_Lw_law_891 ?_
                                      refine x_gd (fun h170 => ?_)
                                      refine x_scl C hX hbl (inB_iff.mp h170) d_Lw_law_892 ?_
                                      refine x_gd (fun h173 => ?_)
                                      refine x_callVI (As := [.int (xs (v4I + (1 : Int32)).toNatClampNeg)]) C (c_Bp_worst G l v1R (xs (v4I + (1 : Int32)).toNatClampNeg) σ) (okO_iff.mp h173) rfl w1286 w1287 w1285 w1288 w120 k_Bp_worst rfl (by decide) (by decide) rfl (Nat.le_of_ble_eq_true rfl) d_Lw_law_893 (fun r171 σ172 => ?_)
                                      refine x_aload_n C d_Lw_law_896 2 rfl ?_
                                      refine x_aload_n C d_Lw_law_897 0 rfl ?_
                                      refine x_iload C d_Lw_law_898 4 rfl ?_
                                      refine x_iconst (v := (1 : Int32)) C d_Lw_law_900 (by decide) ?_
                                      refine x_iadd C d_Lw_law_901 ?_
                                      refine x_gd (fun h174 => ?_)
                                      refine x_scl C hX hbl (inB_iff.mp h174) d_Lw_law_902 ?_
                                      refine x_gd (fun h177 => ?_)
                                      refine x_callVI (As := [.int (xs (v4I + (1 : Int32)).toNatClampNeg)]) C (c_Md_worst G l v2R (xs (v4I + (1 : Int32)).toNatClampNeg) σ172) (okO_iff.mp h177) rfl w2312 w2313 w2311 w2314 w134 k_Md_worst rfl (by decide) (by decide) rfl (Nat.le_of_ble_eq_true rfl) d_Lw_law_903 (fun r175 σ176 => ?_)
                                      refine x_icmp_eq (tgt := 1663) C d_Lw_law_906 (by decide) (fun _ => ?_) (fun _ => ?_)
                                      · exact IH.2.2.2.2.2.2.2.2.2 v1R v2R v3R v4I (σ176)
                                      · refine x_iconst (v := (0 : Int32)) C d_Lw_law_909 (by decide) ?_
                                        exact x_zret C (by decide) d_Lw_law_910
                                    · refine x_split (fun h178 => ?_) (fun h178 => ?_)
                                      · refine x_tabI (tgt := 911) C h178 d_Lw_law_40 (by decide) (by decide) rfl (by decide) ?_
                                        refine x_aload_n C d_Lw_law_911 1 rfl ?_
                                        refine x_aload_n C d_Lw_law_912 0 rfl ?_
                                        refine x_iload C d_Lw_law_913 4 rfl ?_
                                        refine x_iconst (v := (1 : Int32)) C d_Lw_law_915 (by decide) ?_
                                        refine x_iadd C d_Lw_law_916 ?_
                                        refine x_gd (fun h179 => ?_)
                                        refine x_scl C hX hbl (inB_iff.mp h179) d_Lw_law_917 ?_
                                        refine x_aload_n C d_Lw_law_918 0 rfl ?_
                                        refine x_iload C d_Lw_law_919 4 rfl ?_
                                        refine x_iconst (v := (2 : Int32)) C d_Lw_law_921 (by decide) ?_
                                        refine x_iadd C d_Lw_law_922 ?_
                                        refine x_gd (fun h180 => ?_)
                                        refine x_scl C hX hbl (inB_iff.mp h180) d_Lw_law_923 ?_
                                        refine x_gd (fun h183 => ?_)
                                        refine x_callVI (As := [.int (xs (v4I + (1 : Int32)).toNatClampNeg), .int (xs (v4I + (2 : Int32)).toNatClampNeg)]) C (c_Bp_mean G l v1R (xs (v4I + (1 : Int32)).toNatClampNeg) (xs (v4I + (2 : Int32)).toNatClampNeg) σ) (okO_iff.mp h183) rfl w1307 w1308 w1306 w1309 w120 k_Bp_mean rfl (by decide) (by decide) rfl (Nat.le_of_ble_eq_true rfl) d_Lw_law_924 (fun r181 σ182 => ?_)
                                        refine x_aload_n C d_Lw_law_927 2 rfl ?_
                                        refine x_aload_n C d_Lw_law_928 0 rfl ?_
                                        refine x_iload C d_Lw_law_929 4 rfl ?_
                                        refine x_iconst (v := (1 : Int32)) C d_Lw_law_931 (by decide) ?_
                                        refine x_iadd C d_Lw_law_932 ?_
                                        refine x_gd (fun h184 => ?_)
                                        refine x_scl C hX hbl (inB_iff.mp h184) d_Lw_law_933 ?_
                                        refine x_aload_n C d_Lw_law_934 0 rfl ?_
                                        refine x_iload C d_Lw_law_935 4 rfl ?_
                                        refine x_iconst (v := (2 : Int32)) C d_Lw_law_937 (by decide) ?_
                                        refine x_iadd C d_Lw_law_938 ?_
                                        refine x_gd (fun h185 => ?_)
                                        refine x_scl C hX hbl (inB_iff.mp h185) d_Lw_law_939 ?_
                                        refine x_gd (fun h188 => ?_)
                                        refine x_callVI (As := [.int (xs (v4I + (1 : Int32)).toNatClampNeg), .int (xs (v4I + (2 : Int32)).toNatClampNeg)]) C (c_Md_mean G l v2R (xs (v4I + (1 : Int32)).toNatClampNeg) (xs (v4I + (2 : Int32)).toNatClampNeg) σ182) (okO_iff.mp h188) rfl w2324 w2325 w2323 w2326 w134 k_Md_mean rfl (by decide) (by decide) rfl (Nat.le_of_ble_eq_true rfl) d_Lw_law_940 (fun r186 σ187 => ?_)
                                        refine x_icmp_eq (tgt := 1663) C d_Lw_law_943 (by decide) (fun _ => ?_) (fun _ => ?_)
                                        · exact IH.2.2.2.2.2.2.2.2.2 v1R v2R v3R v4I (σ187)
                                        · refine x_iconst (v := (0 : Int32)) C d_Lw_law_946 (by decide) ?_
                                          exact x_zret C (by decide) d_Lw_law_947
                                      · refine x_split (fun h189 => ?_) (fun h189 => ?_)
                                        · refine x_tabI (tgt := 948) C h189 d_Lw_law_40 (by decide) (by decide) rfl (by decide) ?_
                                          refine x_aload_n C d_Lw_law_948 1 rfl ?_
                                          refine x_aload_n C d_Lw_law_949 0 rfl ?_
                                          refine x_iload C d_Lw_law_950 4 rfl ?_
                                          refine x_iconst (v := (1 : Int32)) C d_Lw_law_952 (by decide) ?_
                                          refine x_iadd C d_Lw_law_953 ?_
                                          refine x_gd (fun h190 => ?_)
                                          refine x_scl C hX hbl (inB_iff.mp h190) d_Lw_law_954 ?_
                                          refine x_gd (fun h193 => ?_)
                                          refine x_callVI (As := [.int (xs (v4I + (1 : Int32)).toNatClampNeg)]) C (c_Bp_smallest G l v1R (xs (v4I + (1 : Int32)).toNatClampNeg) σ) (okO_iff.mp h193) rfl w1318 w1319 w1317 w1320 w120 k_Bp_smallest rfl (by decide) (by decide) rfl (Nat.le_of_ble_eq_true rfl) d_Lw_law_955 (fun r191 σ192 => ?_)
                                          refine x_aload_n C d_Lw_law_958 2 rfl ?_
                                          refine x_aload_n C d_Lw_law_959 0 rfl ?_
                                          refine x_iload C d_Lw_law_960 4 rfl ?_
                                          refine x_iconst (v := (1 : Int32)) C d_Lw_law_962 (by decide) ?_
                                          refine x_iadd C d_Lw_law_963 ?_
                                          refine x_gd (fun h194 => ?_)
                                          refine x_scl C hX hbl (inB_iff.mp h194) d_Lw_law_964 ?_
                                          refine x_gd (fun h197 => ?_)
                                          refine x_callVI (As := [.int (xs (v4I + (1 : Int32)).toNatClampNeg)]) C (c_Md_smallest G l v2R (xs (v4I + (1 : Int32)).toNatClampNeg) σ192) (okO_iff.mp h197) rfl w2366 w2367 w2365 w2368 w134 k_Md_smallest rfl (by decide) (by decide) rfl (Nat.le_of_ble_eq_true rfl) d_Lw_law_965 (fun r195 σ196 => ?_)
                                          refine x_icmp_eq (tgt := 1663) C d_Lw_law_968 (by decide) (fun _ => ?_) (fun _ => ?_)
                                          · exact IH.2.2.2.2.2.2.2.2.2 v1R v2R v3R v4I (σ196)
                                          · refine x_iconst (v := (0 : Int32)) C d_Lw_law_971 (by decide) ?_
                                            exact x_zret C (by decide) d_Lw_law_972
                                        · refine x_split (fun h198 => ?_) (fun h198 => ?_)
                                          · refine x_tabI (tgt := 973) C h198 d_Lw_law_40 (by decide) (by decide) rfl (by decide) ?_
                                            refine x_aload_n C d_Lw_law_973 1 rfl ?_
                                            refine x_aload_n C d_Lw_law_974 0 rfl ?_
                                            refine x_iload C d_Lw_law_975 4 rfl ?_
                                            refine x_iconst (v := (1 : Int32)) C d_Lw_law_977 (by decide) ?_
                                            refine x_iadd C d_Lw_law_978 ?_
                                            refine x_gd (fun h199 => ?_)
                                            refine x_scl C hX hbl (inB_iff.mp h199) d_Lw_law_979 ?_
                                            refine x_gd (fun h202 => ?_)
                                            refine x_callVI (As := [.int (xs (v4I + (1 : Int32)).toNatClampNeg)]) C (c_Bp_cannot G l v1R (xs (v4I + (1 : Int32)).toNatClampNeg) σ) (okO_iff.mp h202) rfl w1354 w1355 w1353 w1356 w120 k_Bp_cannot rfl (by decide) (by decide) rfl (Nat.le_of_ble_eq_true rfl) d_Lw_law_980 (fun r200 σ201 => ?_)
                                            refine x_aload_n C d_Lw_law_983 2 rfl ?_
                                            refine x_aload_n C d_Lw_law_984 0 rfl ?_
                                            refine x_iload C d_Lw_law_985 4 rfl ?_
                                            refine x_iconst (v := (1 : Int32)) C d_Lw_law_987 (by decide) ?_
                                            refine x_iadd C d_Lw_law_988 ?_
                                            refine x_gd (fun h203 => ?_)
                                            refine x_scl C hX hbl (inB_iff.mp h203) d_Lw_law_989 ?_
                                            refine x_gd (fun h206 => ?_)
                                            refine x_callVI (As := [.int (xs (v4I + (1 : Int32)).toNatClampNeg)]) C (c_Md_cannot G l v2R (xs (v4I + (1 : Int32)).toNatClampNeg) σ201) (okO_iff.mp h206) rfl w2378 w2379 w2377 w2380 w134 k_Md_cannot rfl (by decide) (by decide) rfl (Nat.le_of_ble_eq_true rfl) d_Lw_law_990 (fun r204 σ205 => ?_)
                                            refine x_icmp_eq (tgt := 1663) C d_Lw_law_993 (by decide) (fun _ => ?_) (fun _ => ?_)
                                            · exact IH.2.2.2.2.2.2.2.2.2 v1R v2R v3R v4I (σ205)
                                            · refine x_iconst (v := (0 : Int32)) C d_Lw_law_996 (by decide) ?_
                                              exact x_zret C (by decide) d_Lw_law_997
                                          · refine x_split (fun h207 => ?_) (fun h207 => ?_)
                                            · refine x_tabI (tgt := 998) C h207 d_Lw_law_40 (by decide) (by decide) rfl (by decide) ?_
                                              refine x_aload_n C d_Lw_law_998 1 rfl ?_
                                              refine x_aload_n C d_Lw_law_999 0 rfl ?_
                                              refine x_iload C d_Lw_law_1000 4 rfl ?_
                                              refine x_iconst (v := (1 : Int32)) C d_Lw_law_1002 (by decide) ?_
                                              refine x_iadd C d_Lw_law_1003 ?_
                                              refine x_gd (fun h208 => ?_)
                                              refine x_scl C hX hbl (inB_iff.mp h208) d_Lw_law_1004 ?_
                                              refine x_gd (fun h211 => ?_)
                                              refine x_callVI (As := [.int (xs (v4I + (1 : Int32)).toNatClampNeg)]) C (c_Bp_wrong G l v1R (xs (v4I + (1 : Int32)).toNatClampNeg) σ) (okO_iff.mp h211) rfl w1400 w1401 w1399 w1402 w120 k_Bp_wrong rfl (by decide) (by decide) rfl (Nat.le_of_ble_eq_true rfl) d_Lw_law_1005 (fun r209 σ210 => ?_)
                                              refine x_aload_n C d_Lw_law_1008 2 rfl ?_
                                              refine x_aload_n C d_Lw_law_1009 0 rfl ?_
                                              refine x_iload C d_Lw_law_1010 4 rfl ?_
                                              refine x_iconst (v := (1 : Int32)) C d_Lw_law_1012 (by decide) ?_
                                              refine x_iadd C d_Lw_law_1013 ?_
                                              refine x_gd (fun h212 => ?_)
                                              refine x_scl C hX hbl (inB_iff.mp h212) d_Lw_law_1014 ?_
                                              refine x_gd (fun h215 => ?_)
                                              refine x_callVI (As := [.int (xs (v4I + (1 : Int32)).toNatClampNeg)]) C (c_Md_wrong G l v2R (xs (v4I + (1 : Int32)).toNatClampNeg) σ210) (okO_iff.mp h215) rfl w2390 w2391 w2389 w2392 w134 k_Md_wrong rfl (by decide) (by decide) rfl (Nat.le_of_ble_eq_true rfl) d_Lw_law_1015 (fun r213 σ214 => ?_)
                                              refine x_icmp_eq (tgt := 1663) C d_Lw_law_1018 (by decide) (fun _ => ?_) (fun _ => ?_)
                                              · exact IH.2.2.2.2.2.2.2.2.2 v1R v2R v3R v4I (σ214)
                                              · refine x_iconst (v := (0 : Int32)) C d_Lw_law_1021 (by decide) ?_
                                                exact x_zret C (by decide) d_Lw_law_1022
                                            · refine x_split (fun h216 => ?_) (fun h216 => ?_)
                                              · refine x_tabI (tgt := 1023) C h216 d_Lw_law_40 (by decide) (by decide) rfl (by decide) ?_
                                                refine x_aload_n C d_Lw_law_1023 1 rfl ?_
                                                refine x_aload_n C d_Lw_law_1024 0 rfl ?_
                                                refine x_iload C d_Lw_law_1025 4 rfl ?_
                                                refine x_iconst (v := (1 : Int32)) C d_Lw_law_1027 (by decide) ?_
                                                refine x_iadd C d_Lw_law_1028 ?_
                                                refine x_gd (fun h217 => ?_)
                                                refine x_scl C hX hbl (inB_iff.mp h217) d_Lw_law_1029 ?_
                                                refine x_gd (fun h220 => ?_)
                                                refine x_callVI (As := [.int (xs (v4I + (1 : Int32)).toNatClampNeg)]) C (c_Bp_suspect G l v1R (xs (v4I + (1 : Int32)).toNatClampNeg) σ) (okO_iff.mp h220) rfl w1436 w1437 w1435 w1438 w120 k_Bp_suspect rfl (by decide) (by decide) rfl (Nat.le_of_ble_eq_true rfl) d_Lw_law_1030 (fun r218 σ219 => ?_)
                                                refine x_aload_n C d_Lw_law_1033 2 rfl ?_
                                                refine x_aload_n C d_Lw_law_1034 0 rfl ?_
                                                refine x_iload C d_Lw_law_1035 4 rfl ?_
                                                refine x_iconst (v := (1 : Int32)) C d_Lw_law_1037 (by decide) ?_
                                                refine x_iadd C d_Lw_law_1038 ?_
                                                refine x_gd (fun h221 => ?_)
                                                refine x_scl C hX hbl (inB_iff.mp h221) d_Lw_law_1039 ?_
                                                refine x_gd (fun h224 => ?_)
                                                refine x_callVI (As := [.int (xs (v4I + (1 : Int32)).toNatClampNeg)]) C (c_Md_suspect G l v2R (xs (v4I + (1 : Int32)).toNatClampNeg) σ219) (okO_iff.mp h224) rfl w2410 w2411 w2409 w2412 w134 k_Md_suspect rfl (by decide) (by decide) rfl (Nat.le_of_ble_eq_true rfl) d_Lw_law_1040 (fun r222 σ223 => ?_)
                                                refine x_icmp_eq (tgt := 1663) C d_Lw_law_1043 (by decide) (fun _ => ?_) (fun _ => ?_)
                                                · exact IH.2.2.2.2.2.2.2.2.2 v1R v2R v3R v4I (σ223)
                                                · refine x_iconst (v := (0 : Int32)) C d_Lw_law_1046 (by decide) ?_
                                                  exact x_zret C (by decide) d_Lw_law_1047
                                              · refine x_split (fun h225 => ?_) (fun h225 => ?_)
                                                · refine x_tabI (tgt := 1048) C h225 d_Lw_law_40 (by decide) (by decide) rfl (by decide) ?_
                                                  refine x_aload_n C d_Lw_law_1048 1 rfl ?_
                                                  refine x_aload_n C d_Lw_law_1049 0 rfl ?_
                                                  refine x_iload C d_Lw_law_1050 4 rfl ?_
                                                  refine x_iconst (v := (1 : Int32)) C d_Lw_law_1052 (by decide) ?_
                                                  refine x_iadd C d_Lw_law_1053 ?_
                                                  refine x_gd (fun h226 => ?_)
                                                  refine x_scl C hX hbl (inB_iff.mp h226) d_Lw_law_1054 ?_
                                                  refine x_gd (fun h229 => ?_)
                                                  refine x_callVI (As := [.int (xs (v4I + (1 : Int32)).toNatClampNeg)]) C (c_Bp_with G l v1R (xs (v4I + (1 : Int32)).toNatClampNeg) σ) (okO_iff.mp h229) rfl w1446 w1447 w1445 w1448 w120 k_Bp_with rfl (by decide) (by decide) rfl (Nat.le_of_ble_eq_true rfl) d_Lw_law_1055 (fun r227 σ228 => ?_)
                                                  refine x_aload_n C d_Lw_law_1058 2 rfl ?_
                                                  refine x_aload_n C d_Lw_law_1059 0 rfl ?_
                                                  refine x_iload C d_Lw_law_1060 4 rfl ?_
                                                  refine x_iconst (v := (1 : Int32)) C d_Lw_law_1062 (by decide) ?_
                                                  refine x_iadd C d_Lw_law_1063 ?_
                                                  refine x_gd (fun h230 => ?_)
                                                  refine x_scl C hX hbl (inB_iff.mp h230) d_Lw_law_1064 ?_
                                                  refine x_gd (fun h233 => ?_)
                                                  refine x_callVI (As := [.int (xs (v4I + (1 : Int32)).toNatClampNeg)]) C (c_Md_with G l v2R (xs (v4I + (1 : Int32)).toNatClampNeg) σ228) (okO_iff.mp h233) rfl w2406 w2407 w2405 w2408 w134 k_Md_with rfl (by decide) (by decide) rfl (Nat.le_of_ble_eq_true rfl) d_Lw_law_1065 (fun r231 σ232 => ?_)
                                                  refine x_icmp_eq (tgt := 1663) C d_Lw_law_1068 (by decide) (fun _ => ?_) (fun _ => ?_)
                                                  · exact IH.2.2.2.2.2.2.2.2.2 v1R v2R v3R v4I (σ232)
                                                  · refine x_iconst (v := (0 : Int32)) C d_Lw_law_1071 (by decide) ?_
                                                    exact x_zret C (by decide) d_Lw_law_1072
                                                · refine x_split (fun h234 => ?_) (fun h234 => ?_)
                                                  · refine x_tabI (tgt := 1073) C h234 d_Lw_law_40 (by decide) (by decide) rfl (by decide) ?_
                                                    refine x_aload_n C d_Lw_law_1073 1 rfl ?_
                                                    refine x_aload_n C d_Lw_law_1074 0 rfl ?_
                                                    refine x_iload C d_Lw_law_1075 4 rfl ?_
                                                    refine x_iconst (v := (1 : Int32)) C d_Lw_law_1077 (by decide) ?_
                                                    refine x_iadd C d_Lw_law_1078 ?_
                                                    refine x_gd (fun h235 => ?_)
                                                    refine x_scl C hX hbl (inB_iff.mp h235) d_Lw_law_1079 ?_
                                                    refine x_gd (fun h238 => ?_)
                                                    refine x_callVI (As := [.int (xs (v4I + (1 : Int32)).toNatClampNeg)]) C (c_Bp_grown G l v1R (xs (v4I + (1 : Int32)).toNatClampNeg) σ) (okO_iff.mp h238) rfl w1450 w1451 w1449 w1452 w120 k_Bp_grown rfl (by decide) (by decide) rfl (Nat.le_of_ble_eq_true rfl) d_Lw_law_1080 (fun r236 σ237 => ?_)
                                                    refine x_aload_n C d_Lw_law_1083 2 rfl ?_
                                                    refine x_aload_n C d_Lw_law_1084 0 rfl ?_
                                                    refine x_iload C d_Lw_law_1085 4 rfl ?_
                                                    refine x_iconst (v := (1 : Int32)) C d_Lw_law_1087 (by decide) ?_
                                                    refine x_iadd C d_Lw_law_1088 ?_
                                                    refine x_gd (fun h239 => ?_)
                                                    refine x_scl C hX hbl (inB_iff.mp h239) d_Lw_law_1089 ?_
                                                    refine x_gd (fun h242 => ?_)
                                                    refine x_callVI (As := [.int (xs (v4I + (1 : Int32)).toNatClampNeg)]) C (c_Md_grown G l v2R (xs (v4I + (1 : Int32)).toNatClampNeg) σ237) (okO_iff.mp h242) rfl w2414 w2415 w2413 w2416 w134 k_Md_grown rfl (by decide) (by decide) rfl (Nat.le_of_ble_eq_true rfl) d_Lw_law_1090 (fun r240 σ241 => ?_)
                                                    refine x_icmp_eq (tgt := 1663) C d_Lw_law_1093 (by decide) (fun _ => ?_) (fun _ => ?_)
                                                    · exact IH.2.2.2.2.2.2.2.2.2 v1R v2R v3R v4I (σ241)
                                                    · refine x_iconst (v := (0 : Int32)) C d_Lw_law_1096 (by decide) ?_
                                                      exact x_zret C (by decide) d_Lw_law_1097
                                                  · refine x_split (fun h243 => ?_) (fun h243 => ?_)
                                                    · refine x_tabI (tgt := 1098) C h243 d_Lw_law_40 (by decide) (by decide) rfl (by decide) ?_
                                                      refine x_aload_n C d_Lw_law_1098 1 rfl ?_
                                                      refine x_gd (fun h246 => ?_)
                                                      refine x_callVI (As := []) C (c_Bp_bells G l v1R  σ) (okO_iff.mp h246) rfl w1485 w1486 w1484 w1487 w120 k_Bp_bells rfl (by decide) (by decide) rfl (Nat.le_of_ble_eq_true rfl) d_Lw_law_1099 (fun r244 σ245 => ?_)
                                                      refine x_aload_n C d_Lw_law_1102 2 rfl ?_
                                                      refine x_gd (fun h249 => ?_)
                                                      refine x_callVI (As := []) C (c_Md_bells G l v2R  σ245) (okO_iff.mp h249) rfl w2442 w2443 w2441 w2444 w134 k_Md_bells rfl (by decide) (by decide) rfl (Nat.le_of_ble_eq_true rfl) d_Lw_law_1103 (fun r247 σ248 => ?_)
                                                      refine x_icmp_eq (tgt := 1663) C d_Lw_law_1106 (by decide) (fun _ => ?_) (fun _ => ?_)
                                                      · exact IH.2.2.2.2.2.2.2.2.2 v1R v2R v3R v4I (σ248)
                                                      · refine x_iconst (v := (0 : Int32)) C d_Lw_law_1109 (by decide) ?_
                                                        exact x_zret C (by decide) d_Lw_law_1110
                                                    · refine x_split (fun h250 => ?_) (fun h250 => ?_)
                                                      · refine x_tabI (tgt := 1111) C h250 d_Lw_law_40 (by decide) (by decide) rfl (by decide) ?_
                                                        refine x_aload_n C d_Lw_law_1111 1 rfl ?_
                                                        refine x_aload_n C d_Lw_law_1112 0 rfl ?_
                                                        refine x_iload C d_Lw_law_1113 4 rfl ?_
                                                        refine x_iconst (v := (1 : Int32)) C d_Lw_law_1115 (by decide) ?_
                                                        refine x_iadd C d_Lw_law_1116 ?_
                                                        refine x_gd (fun h251 => ?_)
                                                        refine x_scl C hX hbl (inB_iff.mp h251) d_Lw_law_1117 ?_
                                                        refine x_aload_n C d_Lw_law_1118 0 rfl ?_
                                                        refine x_iload C d_Lw_law_1119 4 rfl ?_
                                                        refine x_iconst (v := (2 : Int32)) C d_Lw_law_1121 (by decide) ?_
                                                        refine x_iadd C d_Lw_law_1122 ?_
                                                        refine x_gd (fun h252 => ?_)
                                                        refine x_scl C hX hbl (inB_iff.mp h252) d_Lw_law_1123 ?_
                                                        refine x_gd (fun h255 => ?_)
                                                        refine x_callVI (As := [.int (xs (v4I + (1 : Int32)).toNatClampNeg), .int (xs (v4I + (2 : Int32)).toNatClampNeg)]) C (c_Bp_late G l v1R (xs (v4I + (1 : Int32)).toNatClampNeg) (xs (v4I + (2 : Int32)).toNatClampNeg) σ) (okO_iff.mp h255) rfl w1503 w1504 w1502 w1505 w120 k_Bp_late rfl (by decide) (by decide) rfl (Nat.le_of_ble_eq_true rfl) d_Lw_law_1124 (fun r253 σ254 => ?_)
                                                        refine x_aload_n C d_Lw_law_1127 2 rfl ?_
                                                        refine x_aload_n C d_Lw_law_1128 0 rfl ?_
                                                        refine x_iload C d_Lw_law_1129 4 rfl ?_
                                                        refine x_iconst (v := (1 : Int32)) C d_Lw_law_1131 (by decide) ?_
                                                        refine x_iadd C d_Lw_law_1132 ?_
                                                        refine x_gd (fun h256 => ?_)
                                                        refine x_scl C hX hbl (inB_iff.mp h256) d_Lw_law_1133 ?_
                                                        refine x_aload_n C d_Lw_law_1134 0 rfl ?_
                                                        refine x_iload C d_Lw_law_1135 4 rfl ?_
                                                        refine x_iconst (v := (2 : Int32)) C d_Lw_law_1137 (by decide) ?_
                                                        refine x_iadd C d_Lw_law_1138 ?_
                                                        refine x_gd (fun h257 => ?_)
                                                        refine x_scl C hX hbl (inB_iff.mp h257) d_Lw_law_1139 ?_
                                                        refine x_gd (fun h260 => ?_)
                                                        refine x_callVI (As := [.int (xs (v4I + (1 : Int32)).toNatClampNeg), .int (xs (v4I + (2 : Int32)).toNatClampNeg)]) C (c_Md_late G l v2R (xs (v4I + (1 : Int32)).toNatClampNeg) (xs (v4I + (2 : Int32)).toNatClampNeg) σ254) (okO_iff.mp h260) rfl w2434 w2435 w2433 w2436 w134 k_Md_late rfl (by decide) (by decide) rfl (Nat.le_of_ble_eq_true rfl) d_Lw_law_1140 (fun r258 σ259 => ?_)
                                                        refine x_icmp_eq (tgt := 1663) C d_Lw_law_1143 (by decide) (fun _ => ?_) (fun _ => ?_)
                                                        · exact IH.2.2.2.2.2.2.2.2.2 v1R v2R v3R v4I (σ259)
                                                        · refine x_iconst (v := (0 : Int32)) C d_Lw_law_1146 (by decide) ?_
                                                          exact x_zret C (by decide) d_Lw_law_1147
                                                      · refine x_split (fun h261 => ?_) (fun h261 => ?_)
                                                        · refine x_tabI (tgt := 1148) C h261 d_Lw_law_40 (by decide) (by decide) rfl (by decide) ?_
                                                          refine x_aload_n C d_Lw_law_1148 1 rfl ?_
                                                          refine x_aload_n C d_Lw_law_1149 0 rfl ?_
                                                          refine x_iload C d_Lw_law_1150 4 rfl ?_
                                                          refine x_iconst (v := (1 : Int32)) C d_Lw_law_1152 (by decide) ?_
                                                          refine x_iadd C d_Lw_law_1153 ?_
                                                          refine x_gd (fun h262 => ?_)
                                                          refine x_scl C hX hbl (inB_iff.mp h262) d_Lw_law_1154 ?_
                                                          refine x_gd (fun h265 => ?_)
                                                          refine x_callVI (As := [.int (xs (v4I + (1 : Int32)).toNatClampNeg)]) C (c_Bp_often G l v1R (xs (v4I + (1 : Int32)).toNatClampNeg) σ) (okO_iff.mp h265) rfl w1521 w1522 w1520 w1523 w120 k_Bp_often rfl (by decide) (by decide) rfl (Nat.le_of_ble_eq_true rfl) d_Lw_law_1155 (fun r263 σ264 => ?_)
                                                          refine x_aload_n C d_Lw_law_1158 2 rfl ?_
                                                          refine x_aload_n C d_Lw_law_1159 0 rfl ?_
                                                          refine x_iload C d_Lw_law_1160 4 rfl ?_
                                                          refine x_iconst (v := (1 : Int32)) C d_Lw_law_1162 (by decide) ?_
                                                          refine x_iadd C d_Lw_law_1163 ?_
                                                          refine x_gd (fun h266 => ?_)
                                                          refine x_scl C hX hbl (inB_iff.mp h266) d_Lw_law_1164 ?_
                                                          refine x_gd (fun h269 => ?_)
                                                          refine x_callVI (As := [.int (xs (v4I + (1 : Int32)).toNatClampNeg)]) C (c_Md_often G l v2R (xs (v4I + (1 : Int32)).toNatClampNeg) σ264) (okO_iff.mp h269) rfl w2446 w2447 w2445 w2448 w134 k_Md_often rfl (by decide) (by decide) rfl (Nat.le_of_ble_eq_true rfl) d_Lw_law_1165 (fun r267 σ268 => ?_)
                                                          refine x_icmp_eq (tgt := 1663) C d_Lw_law_1168 (by decide) (fun _ => ?_) (fun _ => ?_)
                                                          · exact IH.2.2.2.2.2.2.2.2.2 v1R v2R v3R v4I (σ268)
                                                          · refine x_iconst (v := (0 : Int32)) C d_Lw_law_1171 (by decide) ?_
                                                            exact x_zret C (by decide) d_Lw_law_1172
                                                        · refine x_split (fun h270 => ?_) (fun h270 => ?_)
                                                          · refine x_tabI (tgt := 1173) C h270 d_Lw_law_40 (by decide) (by decide) rfl (by decide) ?_
                                                            refine x_aload_n C d_Lw_law_1173 1 rfl ?_
                                                            refine x_aload_n C d_Lw_law_1174 0 rfl ?_
                                                            refine x_iload C d_Lw_law_1175 4 rfl ?_
                                                            refine x_iconst (v := (1 : Int32)) C d_Lw_law_1177 (by decide) ?_
                                                            refine x_iadd C d_Lw_law_1178 ?_
                                                            refine x_gd (fun h271 => ?_)
                                                            refine x_scl C hX hbl (inB_iff.mp h271) d_Lw_law_1179 ?_
                                                            refine x_gd (fun h274 => ?_)
                                                            refine x_callVI (As := [.int (xs (v4I + (1 : Int32)).toNatClampNeg)]) C (c_Bp_rings G l v1R (xs (v4I + (1 : Int32)).toNatClampNeg) σ) (okO_iff.mp h274) rfl w1537 w1538 w1536 w1539 w120 k_Bp_rings rfl (by decide) (by decide) rfl (Nat.le_of_ble_eq_true rfl) d_Lw_law_1180 (fun r272 σ273 => ?_)
                                                            refine x_aload_n C d_Lw_law_1183 2 rfl ?_
                                                            refine x_aload_n C d_Lw_law_1184 0 rfl ?_
                                                            refine x_iload C d_Lw_law_1185 4 rfl ?_
                                                            refine x_iconst (v := (1 : Int32)) C d_Lw_law_1187 (by decide) ?_
                                                            refine x_iadd C d_Lw_law_1188 ?_
                                                            refine x_gd (fun h275 => ?_)
                                                            refine x_scl C hX hbl (inB_iff.mp h275) d_Lw_law_1189 ?_
                                                            refine x_gd (fun h278 => ?_)
                                                            refine x_callVI (As := [.int (xs (v4I + (1 : Int32)).toNatClampNeg)]) C (c_Md_rings G l v2R (xs (v4I + (1 : Int32)).toNatClampNeg) σ273) (okO_iff.mp h278) rfl w2450 w2451 w2449 w2452 w134 k_Md_rings rfl (by decide) (by decide) rfl (Nat.le_of_ble_eq_true rfl) d_Lw_law_1190 (fun r276 σ277 => ?_)
                                                            refine x_icmp_eq (tgt := 1663) C d_Lw_law_1193 (by decide) (fun _ => ?_) (fun _ => ?_)
                                                            · exact IH.2.2.2.2.2.2.2.2.2 v1R v2R v3R v4I (σ277)
                                                            · refine x_iconst (v := (0 : Int32)) C d_Lw_law_1196 (by decide) ?_
                                                              exact x_zret C (by decide) d_Lw_law_1197
                                                          · refine x_split (fun h279 => ?_) (fun h279 => ?_)
                                                            · refine x_tabI (tgt := 1198) C h279 d_Lw_law_40 (by decide) (by decide) rfl (by decide) ?_
                                                              refine x_aload_n C d_Lw_law_1198 1 rfl ?_
                                                              refine x_aload_n C d_Lw_law_1199 0 rfl ?_
                                                              refine x_iload C d_Lw_law_1200 4 rfl ?_
                                                              refine x_iconst (v := (1 : Int32)) C d_Lw_law_1202 (by decide) ?_
                                                              refine x_iadd C d_Lw_law_1203 ?_
                                                              refine x_gd (fun h280 => ?_)
                                                              refine x_scl C hX hbl (inB_iff.mp h280) d_Lw_law_1204 ?_
                                                              refine x_aload_n C d_Lw_law_1205 0 rfl ?_
                                                              refine x_iload C d_Lw_law_1206 4 rfl ?_
                                                              refine x_iconst (v := (2 : Int32)) C d_Lw_law_1208 (by decide) ?_
                                                              refine x_iadd C d_Lw_law_1209 ?_
                                                              refine x_gd (fun h281 => ?_)
                                                              refine x_scl C hX hbl (inB_iff.mp h281) d_Lw_law_1210 ?_
                                                              refine x_aload_n C d_Lw_law_1211 0 rfl ?_
                                                              refine x_iload C d_Lw_law_1212 4 rfl ?_
                                                              refine x_iconst (v := (3 : Int32)) C d_Lw_law_1214 (by decide) ?_
                                                              refine x_iadd C d_Lw_law_1215 ?_
                                                              refine x_gd (fun h282 => ?_)
                                                              refine x_scl C hX hbl (inB_iff.mp h282) d_Lw_law_1216 ?_
                                                              refine x_gd (fun h285 => ?_)
                                                              refine x_callVI (As := [.int (xs (v4I + (1 : Int32)).toNatClampNeg), .int (xs (v4I + (2 : Int32)).toNatClampNeg), .int (xs (v4I + (3 : Int32)).toNatClampNeg)]) C (c_Bp_vote G l v1R (xs (v4I + (1 : Int32)).toNatClampNeg) (xs (v4I + (2 : Int32)).toNatClampNeg) (xs (v4I + (3 : Int32)).toNatClampNeg) σ) (okO_iff.mp h285) rfl w1545 w1546 w1544 w1547 w120 k_Bp_vote rfl (by decide) (by decide) rfl (Nat.le_of_ble_eq_true rfl) d_Lw_law_1217 (fun r283 σ284 => ?_)
                                                              refine x_aload_n C d_Lw_law_1220 2 rfl ?_
                                                              refine x_aload_n C d_Lw_law_1221 0 rfl ?_
                                                              refine x_iload C d_Lw_law_1222 4 rfl ?_
                                                              refine x_iconst (v := (1 : Int32)) C d_Lw_law_1224 (by decide) ?_
                                                              refine x_iadd C d_Lw_law_1225 ?_
                                                              refine x_gd (fun h286 => ?_)
                                                              refine x_scl C hX hbl (inB_iff.mp h286) d_Lw_law_1226 ?_
                                                              refine x_aload_n C d_Lw_law_1227 0 rfl ?_
                                                              refine x_iload C d_Lw_law_1228 4 rfl ?_
                                                              refine x_iconst (v := (2 : Int32)) C d_Lw_law_1230 (by decide) ?_
                                                              refine x_iadd C d_Lw_law_1231 ?_
                                                              refine x_gd (fun h287 => ?_)
                                                              refine x_scl C hX hbl (inB_iff.mp h287) d_Lw_law_1232 ?_
                                                              refine x_aload_n C d_Lw_law_1233 0 rfl ?_
                                                              refine x_iload C d_Lw_law_1234 4 rfl ?_
                                                              refine x_iconst (v := (3 : Int32)) C d_Lw_law_1236 (by decide) ?_
                                                              refine x_iadd C d_Lw_law_1237 ?_
                                                              refine x_gd (fun h288 => ?_)
                                                              refine x_scl C hX hbl (inB_iff.mp h288) d_Lw_law_1238 ?_
                                                              refine x_gd (fun h291 => ?_)
                                                              refine x_callVI (As := [.int (xs (v4I + (1 : Int32)).toNatClampNeg), .int (xs (v4I + (2 : Int32)).toNatClampNeg), .int (xs (v4I + (3 : Int32)).toNatClampNeg)]) C (c_Md_vote G l v2R (xs (v4I + (1 : Int32)).toNatClampNeg) (xs (v4I + (2 : Int32)).toNatClampNeg) (xs (v4I + (3 : Int32)).toNatClampNeg) σ284) (okO_iff.mp h291) rfl w2462 w2463 w2461 w2464 w134 k_Md_vote rfl (by decide) (by decide) rfl (Nat.le_of_ble_eq_true rfl) d_Lw_law_1239 (fun r289 σ290 => ?_)
                                                              refine x_icmp_eq (tgt := 1663) C d_Lw_law_1242 (by decide) (fun _ => ?_) (fun _ => ?_)
                                                              · exact IH.2.2.2.2.2.2.2.2.2 v1R v2R v3R v4I (σ290)
                                                              · refine x_iconst (v := (0 : Int32)) C d_Lw_law_1245 (by decide) ?_
                                                                exact x_zret C (by decide) d_Lw_law_1246
                                                            · refine x_split (fun h292 => ?_) (fun h292 => ?_)
                                                              · refine x_tabI (tgt := 1247) C h292 d_Lw_law_40 (by decide) (by decide) rfl (by decide) ?_
                                                                refine x_aload_n C d_Lw_law_1247 1 rfl ?_
                                                                refine x_aload_n C d_Lw_law_1248 0 rfl ?_
                                                                refine x_iload C d_Lw_law_1249 4 rfl ?_
                                                                refine x_iconst (v := (1 : Int32)) C d_Lw_law_1251 (by decide) ?_
                                                                refine x_iadd C d_Lw_law_1252 ?_
                                                                refine x_gd (fun h293 => ?_)
                                                                refine x_scl C hX hbl (inB_iff.mp h293) d_Lw_law_1253 ?_
                                                                refine x_aload_n C d_Lw_law_1254 0 rfl ?_
                                                                refine x_iload C d_Lw_law_1255 4 rfl ?_
                                                                refine x_iconst (v := (2 : Int32)) C d_Lw_law_1257 (by decide) ?_
                                                                refine x_iadd C d_Lw_law_1258 ?_
                                                                refine x_gd (fun h294 => ?_)
                                                                refine x_scl C hX hbl (inB_iff.mp h294) d_Lw_law_1259 ?_
                                                                refine x_gd (fun h297 => ?_)
                                                                refine x_callVI (As := [.int (xs (v4I + (1 : Int32)).toNatClampNeg), .int (xs (v4I + (2 : Int32)).toNatClampNeg)]) C (c_Bp_swings G l v1R (xs (v4I + (1 : Int32)).toNatClampNeg) (xs (v4I + (2 : Int32)).toNatClampNeg) σ) (okO_iff.mp h297) rfl w1567 w1568 w1566 w1569 w120 k_Bp_swings rfl (by decide) (by decide) rfl (Nat.le_of_ble_eq_true rfl) d_Lw_law_1260 (fun r295 σ296 => ?_)
                                                                refine x_aload_n C d_Lw_law_1263 2 rfl ?_
                                                                refine x_aload_n C d_Lw_law_1264 0 rfl ?_
                                                                refine x_iload C d_Lw_law_1265 4 rfl ?_
                                                                refine x_iconst (v := (1 : Int32)) C d_Lw_law_1267 (by decide) ?_
                                                                refine x_iadd C d_Lw_law_1268 ?_
                                                                refine x_gd (fun h298 => ?_)
                                                                refine x_scl C hX hbl (inB_iff.mp h298) d_Lw_law_1269 ?_
                                                                refine x_aload_n C d_Lw_law_1270 0 rfl ?_
                                                                refine x_iload C d_Lw_law_1271 4 rfl ?_
                                                                refine x_iconst (v := (2 : Int32)) C d_Lw_law_1273 (by decide) ?_
                                                                refine x_iadd C d_Lw_law_1274 ?_
                                                                refine x_gd (fun h299 => ?_)
                                                                refine x_scl C hX hbl (inB_iff.mp h299) d_Lw_law_1275 ?_
                                                                refine x_gd (fun h302 => ?_)
                                                                refine x_callVI (As := [.int (xs (v4I + (1 : Int32)).toNatClampNeg), .int (xs (v4I + (2 : Int32)).toNatClampNeg)]) C (c_Md_swings G l v2R (xs (v4I + (1 : Int32)).toNatClampNeg) (xs (v4I + (2 : Int32)).toNatClampNeg) σ296) (okO_iff.mp h302) rfl w2473 w2474 w2472 w2475 w134 k_Md_swings rfl (by decide) (by decide) rfl (Nat.le_of_ble_eq_true rfl) d_Lw_law_1276 (fun r300 σ301 => ?_)
                                                                refine x_icmp_eq (tgt := 1663) C d_Lw_law_1279 (by decide) (fun _ => ?_) (fun _ => ?_)
                                                                · exact IH.2.2.2.2.2.2.2.2.2 v1R v2R v3R v4I (σ301)
                                                                · refine x_iconst (v := (0 : Int32)) C d_Lw_law_1282 (by decide) ?_
                                                                  exact x_zret C (by decide) d_Lw_law_1283
                                                              · refine x_split (fun h303 => ?_) (fun h303 => ?_)
                                                                · refine x_tabI (tgt := 1284) C h303 d_Lw_law_40 (by decide) (by decide) rfl (by decide) ?_
                                                                  refine x_aload_n C d_Lw_law_1284 1 rfl ?_
                                                                  refine x_aload_n C d_Lw_law_1285 0 rfl ?_
                                                                  refine x_iload C d_Lw_law_1286 4 rfl ?_
                                                                  refine x_iconst (v := (1 : Int32)) C d_Lw_law_1288 (by decide) ?_
                                                                  refine x_iadd C d_Lw_law_1289 ?_
                                                                  refine x_gd (fun h304 => ?_)
                                                                  refine x_scl C hX hbl (inB_iff.mp h304) d_Lw_law_1290 ?_
                                                                  refine x_aload_n C d_Lw_law_1291 0 rfl ?_
                                                                  refine x_iload C d_Lw_law_1292 4 rfl ?_
                                                                  refine x_iconst (v := (2 : Int32)) C d_Lw_law_1294 (by decide) ?_
                                                                  refine x_iadd C d_Lw_law_1295 ?_
                                                                  refine x_gd (fun h305 => ?_)
                                                                  refine x_scl C hX hbl (inB_iff.mp h305) d_Lw_law_1296 ?_
                                                                  refine x_if_eq (tgt := 1304) C d_Lw_law_1297 (by decide) (fun _ => ?_) (fun _ => ?_)
                                                                  · refine x_iconst (v := (0 : Int32)) C d_Lw_law_1304 (by decide) ?_
                                                                    exact IH.2.2.2.2.2.1 v1R v2R v3R v4I v1R (xs (v4I + (1 : Int32)).toNatClampNeg) ((0 : Int32)) (σ)
                                                                  · refine x_iconst (v := (1 : Int32)) C d_Lw_law_1300 (by decide) ?_
                                                                    refine x_goto (tgt := 1305) C d_Lw_law_1301 (by decide) ?_
                                                                    exact IH.2.2.2.2.2.1 v1R v2R v3R v4I v1R (xs (v4I + (1 : Int32)).toNatClampNeg) ((1 : Int32)) (σ)
                                                                · refine x_split (fun h306 => ?_) (fun h306 => ?_)
                                                                  · refine x_tabI (tgt := 1349) C h306 d_Lw_law_40 (by decide) (by decide) rfl (by decide) ?_
                                                                    refine x_aload_n C d_Lw_law_1349 1 rfl ?_
                                                                    refine x_aload_n C d_Lw_law_1350 0 rfl ?_
                                                                    refine x_iload C d_Lw_law_1351 4 rfl ?_
                                                                    refine x_iconst (v := (1 : Int32)) C d_Lw_law_1353 (by decide) ?_
                                                                    refine x_iadd C d_Lw_law_1354 ?_
                                                                    refine x_gd (fun h307 => ?_)
                                                                    refine x_scl C hX hbl (inB_iff.mp h307) d_Lw_law_1355 ?_
                                                                    refine x_aload_n C d_Lw_law_1356 0 rfl ?_
                                                                    refine x_iload C d_Lw_law_1357 4 rfl ?_
                                                                    refine x_iconst (v := (2 : Int32)) C d_Lw_law_1359 (by decide) ?_
                                                                    refine x_iadd C d_Lw_law_1360 ?_
                                                                    refine x_gd (fun h308 => ?_)
                                                                    refine x_scl C hX hbl (inB_iff.mp h308) d_Lw_law_1361 ?_
                                                                    refine x_gd (fun h311 => ?_)
                                                                    refine x_callVI (As := [.int (xs (v4I + (1 : Int32)).toNatClampNeg), .int (xs (v4I + (2 : Int32)).toNatClampNeg)]) C (c_Bp_leastSet G l v1R (xs (v4I + (1 : Int32)).toNatClampNeg) (xs (v4I + (2 : Int32)).toNatClampNeg) σ) (okO_iff.mp h311) rfl w1597 w1598 w1596 w1599 w120 k_Bp_leastSet rfl (by decide) (by decide) rfl (Nat.le_of_ble_eq_true rfl) d_Lw_law_1362 (fun r309 σ310 => ?_)
                                                                    refine x_aload_n C d_Lw_law_1365 2 rfl ?_
                                                                    refine x_aload_n C d_Lw_law_1366 0 rfl ?_
                                                                    refine x_iload C d_Lw_law_1367 4 rfl ?_
                                                                    refine x_iconst (v := (1 : Int32)) C d_Lw_law_1369 (by decide) ?_
                                                                    refine x_iadd C d_Lw_law_1370 ?_
                                                                    refine x_gd (fun h312 => ?_)
                                                                    refine x_scl C hX hbl (inB_iff.mp h312) d_Lw_law_1371 ?_
                                                                    refine x_aload_n C d_Lw_law_1372 0 rfl ?_
                                                                    refine x_iload C d_Lw_law_1373 4 rfl ?_
                                                                    refine x_iconst (v := (2 : Int32)) C d_Lw_law_1375 (by decide) ?_
                                                                    refine x_iadd C d_Lw_law_1376 ?_
                                                                    refine x_gd (fun h313 => ?_)
                                                                    refine x_scl C hX hbl (inB_iff.mp h313) d_Lw_law_1377 ?_
                                                                    refine x_gd (fun h316 => ?_)
                                                                    refine x_callVI (As := [.int (xs (v4I + (1 : Int32)).toNatClampNeg), .int (xs (v4I + (2 : Int32)).toNatClampNeg)]) C (c_Md_leastSet G l v2R (xs (v4I + (1 : Int32)).toNatClampNeg) (xs (v4I + (2 : Int32)).toNatClampNeg) σ310) (okO_iff.mp h316) rfl w2481 w2482 w2480 w2483 w134 k_Md_leastSet rfl (by decide) (by decide) rfl (Nat.le_of_ble_eq_true rfl) d_Lw_law_1378 (fun r314 σ315 => ?_)
                                                                    refine x_icmp_eq (tgt := 1663) C d_Lw_law_1381 (by decide) (fun _ => ?_) (fun _ => ?_)
                                                                    · exact IH.2.2.2.2.2.2.2.2.2 v1R v2R v3R v4I (σ315)
                                                                    · refine x_iconst (v := (0 : Int32)) C d_Lw_law_1384 (by decide) ?_
                                                                      exact x_zret C (by decide) d_Lw_law_1385
                                                                  · refine x_split (fun h317 => ?_) (fun h317 => ?_)
                                                                    · refine x_tabI (tgt := 1386) C h317 d_Lw_law_40 (by decide) (by decide) rfl (by decide) ?_
                                                                      refine x_aload_n C d_Lw_law_1386 1 rfl ?_
                                                                      refine x_aload_n C d_Lw_law_1387 0 rfl ?_
                                                                      refine x_iload C d_Lw_law_1388 4 rfl ?_
                                                                      refine x_iconst (v := (1 : Int32)) C d_Lw_law_1390 (by decide) ?_
                                                                      refine x_iadd C d_Lw_law_1391 ?_
                                                                      refine x_gd (fun h318 => ?_)
                                                                      refine x_scl C hX hbl (inB_iff.mp h318) d_Lw_law_1392 ?_
                                                                      refine x_gd (fun h321 => ?_)
                                                                      refine x_callVI (As := [.int (xs (v4I + (1 : Int32)).toNatClampNeg)]) C (c_Bp_vetoes G l v1R (xs (v4I + (1 : Int32)).toNatClampNeg) σ) (okO_iff.mp h321) rfl w1605 w1606 w1604 w1607 w120 k_Bp_vetoes rfl (by decide) (by decide) rfl (Nat.le_of_ble_eq_true rfl) d_Lw_law_1393 (fun r319 σ320 => ?_)
                                                                      refine x_aload_n C d_Lw_law_1396 2 rfl ?_
                                                                      refine x_aload_n C d_Lw_law_1397 0 rfl ?_
                                                                      refine x_iload C d_Lw_law_1398 4 rfl ?_
                                                                      refine x_iconst (v := (1 : Int32)) C d_Lw_law_1400 (by decide) ?_
                                                                      refine x_iadd C d_Lw_law_1401 ?_
                                                                      refine x_gd (fun h322 => ?_)
                                                                      refine x_scl C hX hbl (inB_iff.mp h322) d_Lw_law_1402 ?_
                                                                      refine x_gd (fun h325 => ?_)
                                                                      refine x_callVI (As := [.int (xs (v4I + (1 : Int32)).toNatClampNeg)]) C (c_Md_vetoes G l v2R (xs (v4I + (1 : Int32)).toNatClampNeg) σ320) (okO_iff.mp h325) rfl w2485 w2486 w2484 w2487 w134 k_Md_vetoes rfl (by decide) (by decide) rfl (Nat.le_of_ble_eq_true rfl) d_Lw_law_1403 (fun r323 σ324 => ?_)
                                                                      refine x_icmp_eq (tgt := 1663) C d_Lw_law_1406 (by decide) (fun _ => ?_) (fun _ => ?_)
                                                                      · exact IH.2.2.2.2.2.2.2.2.2 v1R v2R v3R v4I (σ324)
                                                                      · refine x_iconst (v := (0 : Int32)) C d_Lw_law_1409 (by decide) ?_
                                                                        exact x_zret C (by decide) d_Lw_law_1410
                                                                    · refine x_split (fun h326 => ?_) (fun h326 => ?_)
                                                                      · refine x_tabI (tgt := 1411) C h326 d_Lw_law_40 (by decide) (by decide) rfl (by decide) ?_
                                                                        refine x_aload_n C d_Lw_law_1411 1 rfl ?_
                                                                        refine x_aload_n C d_Lw_law_1412 0 rfl ?_
                                                                        refine x_iload C d_Lw_law_1413 4 rfl ?_
                                                                        refine x_iconst (v := (1 : Int32)) C d_Lw_law_1415 (by decide) ?_
                                                                        refine x_iadd C d_Lw_law_1416 ?_
                                                                        refine x_gd (fun h327 => ?_)
                                                                        refine x_scl C hX hbl (inB_iff.mp h327) d_Lw_law_1417 ?_
                                                                        refine x_aload_n C d_Lw_law_1418 0 rfl ?_
                                                                        refine x_iload C d_Lw_law_1419 4 rfl ?_
                                                                        refine x_iconst (v := (2 : Int32)) C d_Lw_law_1421 (by decide) ?_
                                                                        refine x_iadd C d_Lw_law_1422 ?_
                                                                        refine x_gd (fun h328 => ?_)
                                                                        refine x_scl C hX hbl (inB_iff.mp h328) d_Lw_law_1423 ?_
                                                                        refine x_gd (fun h331 => ?_)
                                                                        refine x_callVI (As := [.int (xs (v4I + (1 : Int32)).toNatClampNeg), .int (xs (v4I + (2 : Int32)).toNatClampNeg)]) C (c_Bp_same G l v1R (xs (v4I + (1 : Int32)).toNatClampNeg) (xs (v4I + (2 : Int32)).toNatClampNeg) σ) (okO_iff.mp h331) rfl w1614 w1615 w1613 w1616 w120 k_Bp_same rfl (by decide) (by decide) rfl (Nat.le_of_ble_eq_true rfl) d_Lw_law_1424 (fun r329 σ330 => ?_)
                                                                        refine x_aload_n C d_Lw_law_1427 2 rfl ?_
                                                                        refine x_aload_n C d_Lw_law_1428 0 rfl ?_
                                                                        refine x_iload C d_Lw_law_1429 4 rfl ?_
                                                                        refine x_iconst (v := (1 : Int32)) C d_Lw_law_1431 (by decide) ?_
                                                                        refine x_iadd C d_Lw_law_1432 ?_
                                                                        refine x_gd (fun h332 => ?_)
                                                                        refine x_scl C hX hbl (inB_iff.mp h332) d_Lw_law_1433 ?_
                                                                        refine x_aload_n C d_Lw_law_1434 0 rfl ?_
                                                                        refine x_iload C d_Lw_law_1435 4 rfl ?_
                                                                        refine x_iconst (v := (2 : Int32)) C d_Lw_law_1437 (by decide) ?_
                                                                        refine x_iadd C d_Lw_law_1438 ?_
                                                                        refine x_gd (fun h333 => ?_)
                                                                        refine x_scl C hX hbl (inB_iff.mp h333) d_Lw_law_1439 ?_
                                                                        refine x_gd (fun h336 => ?_)
                                                                        refine x_callVI (As := [.int (xs (v4I + (1 : Int32)).toNatClampNeg), .int (xs (v4I + (2 : Int32)).toNatClampNeg)]) C (c_Md_same G l v2R (xs (v4I + (1 : Int32)).toNatClampNeg) (xs (v4I + (2 : Int32)).toNatClampNeg) σ330) (okO_iff.mp h336) rfl w2374 w2375 w2373 w2376 w134 k_Md_same rfl (by decide) (by decide) rfl (Nat.le_of_ble_eq_true rfl) d_Lw_law_1440 (fun r334 σ335 => ?_)
                                                                        refine x_icmp_eq (tgt := 1663) C d_Lw_law_1443 (by decide) (fun _ => ?_) (fun _ => ?_)
                                                                        · exact IH.2.2.2.2.2.2.2.2.2 v1R v2R v3R v4I (σ335)
                                                                        · refine x_iconst (v := (0 : Int32)) C d_Lw_law_1446 (by decide) ?_
                                                                          exact x_zret C (by decide) d_Lw_law_1447
                                                                      · refine x_split (fun h337 => ?_) (fun h337 => ?_)
                                                                        · refine x_tabI (tgt := 1448) C h337 d_Lw_law_40 (by decide) (by decide) rfl (by decide) ?_
                                                                          refine x_aload_n C d_Lw_law_1448 1 rfl ?_
                                                                          refine x_aload_n C d_Lw_law_1449 0 rfl ?_
                                                                          refine x_iload C d_Lw_law_1450 4 rfl ?_
                                                                          refine x_iconst (v := (1 : Int32)) C d_Lw_law_1452 (by decide) ?_
                                                                          refine x_iadd C d_Lw_law_1453 ?_
                                                                          refine x_gd (fun h338 => ?_)
                                                                          refine x_scl C hX hbl (inB_iff.mp h338) d_Lw_law_1454 ?_
                                                                          refine x_gd (fun h341 => ?_)
                                                                          refine x_callVI (As := [.int (xs (v4I + (1 : Int32)).toNatClampNeg)]) C (c_Bp_lay G l v1R (xs (v4I + (1 : Int32)).toNatClampNeg) σ) (okO_iff.mp h341) rfl w1624 w1625 w1623 w1626 w120 k_Bp_lay rfl (by decide) (by decide) rfl (Nat.le_of_ble_eq_true rfl) d_Lw_law_1455 (fun r339 σ340 => ?_)
                                                                          refine x_aload_n C d_Lw_law_1458 2 rfl ?_
                                                                          refine x_aload_n C d_Lw_law_1459 0 rfl ?_
                                                                          refine x_iload C d_Lw_law_1460 4 rfl ?_
                                                                          refine x_iconst (v := (1 : Int32)) C d_Lw_law_1462 (by decide) ?_
                                                                          refine x_iadd C d_Lw_law_1463 ?_
                                                                          refine x_gd (fun h342 => ?_)
                                                                          refine x_scl C hX hbl (inB_iff.mp h342) d_Lw_law_1464 ?_
                                                                          refine x_gd (fun h345 => ?_)
                                                                          refine x_callVI (As := [.int (xs (v4I + (1 : Int32)).toNatClampNeg)]) C (c_Md_lay G l v2R (xs (v4I + (1 : Int32)).toNatClampNeg) σ340) (okO_iff.mp h345) rfl w2489 w2490 w2488 w2491 w134 k_Md_lay rfl (by decide) (by decide) rfl (Nat.le_of_ble_eq_true rfl) d_Lw_law_1465 (fun r343 σ344 => ?_)
                                                                          refine x_icmp_eq (tgt := 1663) C d_Lw_law_1468 (by decide) (fun _ => ?_) (fun _ => ?_)
                                                                          · exact IH.2.2.2.2.2.2.2.2.2 v1R v2R v3R v4I (σ344)
                                                                          · refine x_iconst (v := (0 : Int32)) C d_Lw_law_1471 (by decide) ?_
                                                                            exact x_zret C (by decide) d_Lw_law_1472
                                                                        · refine x_split (fun h346 => ?_) (fun h346 => ?_)
                                                                          · refine x_tabI (tgt := 1473) C h346 d_Lw_law_40 (by decide) (by decide) rfl (by decide) ?_
                                                                            refine x_aload_n C d_Lw_law_1473 1 rfl ?_
                                                                            refine x_gd (fun h349 => ?_)
                                                                            refine x_callVI (As := []) C (c_Bp_clear G l v1R  σ) (okO_iff.mp h349) rfl w1628 w1629 w1627 w1630 w120 k_Bp_clear rfl (by decide) (by decide) rfl (Nat.le_of_ble_eq_true rfl) d_Lw_law_1474 (fun r347 σ348 => ?_)
                                                                            refine x_aload_n C d_Lw_law_1477 2 rfl ?_
                                                                            refine x_gd (fun h352 => ?_)
                                                                            refine x_callVI (As := []) C (c_Md_clear G l v2R  σ348) (okO_iff.mp h352) rfl w2493 w2494 w2492 w2495 w134 k_Md_clear rfl (by decide) (by decide) rfl (Nat.le_of_ble_eq_true rfl) d_Lw_law_1478 (fun r350 σ351 => ?_)
                                                                            refine x_icmp_eq (tgt := 1663) C d_Lw_law_1481 (by decide) (fun _ => ?_) (fun _ => ?_)
                                                                            · exact IH.2.2.2.2.2.2.2.2.2 v1R v2R v3R v4I (σ351)
                                                                            · refine x_iconst (v := (0 : Int32)) C d_Lw_law_1484 (by decide) ?_
                                                                              exact x_zret C (by decide) d_Lw_law_1485
                                                                          · refine x_split (fun h353 => ?_) (fun h353 => ?_)
                                                                            · refine x_tabI (tgt := 1486) C h353 d_Lw_law_40 (by decide) (by decide) rfl (by decide) ?_
                                                                              refine x_aload_n C d_Lw_law_1486 1 rfl ?_
                                                                              refine x_aload_n C d_Lw_law_1487 0 rfl ?_
                                                                              refine x_iload C d_Lw_law_1488 4 rfl ?_
                                                                              refine x_iconst (v := (1 : Int32)) C d_Lw_law_1490 (by decide) ?_
                                                                              refine x_iadd C d_Lw_law_1491 ?_
                                                                              refine x_gd (fun h354 => ?_)
                                                                              refine x_scl C hX hbl (inB_iff.mp h354) d_Lw_law_1492 ?_
                                                                              refine x_gd (fun h357 => ?_)
                                                                              refine x_callVI (As := [.int (xs (v4I + (1 : Int32)).toNatClampNeg)]) C (c_Bp_feather G l v1R (xs (v4I + (1 : Int32)).toNatClampNeg) σ) (okO_iff.mp h357) rfl w1632 w1633 w1631 w1634 w120 k_Bp_feather rfl (by decide) (by decide) rfl (Nat.le_of_ble_eq_true rfl) d_Lw_law_1493 (fun r355 σ356 => ?_)
                                                                              refine x_aload_n C d_Lw_law_1496 2 rfl ?_
                                                                              refine x_aload_n C d_Lw_law_1497 0 rfl ?_
                                                                              refine x_iload C d_Lw_law_1498 4 rfl ?_
                                                                              refine x_iconst (v := (1 : Int32)) C d_Lw_law_1500 (by decide) ?_
                                                                              refine x_iadd C d_Lw_law_1501 ?_
                                                                              refine x_gd (fun h358 => ?_)
                                                                              refine x_scl C hX hbl (inB_iff.mp h358) d_Lw_law_1502 ?_
                                                                              refine x_gd (fun h361 => ?_)
                                                                              refine x_callVI (As := [.int (xs (v4I + (1 : Int32)).toNatClampNeg)]) C (c_Md_feather G l v2R (xs (v4I + (1 : Int32)).toNatClampNeg) σ356) (okO_iff.mp h361) rfl w2497 w2498 w2496 w2499 w134 k_Md_feather rfl (by decide) (by decide) rfl (Nat.le_of_ble_eq_true rfl) d_Lw_law_1503 (fun r359 σ360 => ?_)
                                                                              refine x_icmp_eq (tgt := 1663) C d_Lw_law_1506 (by decide) (fun _ => ?_) (fun _ => ?_)
                                                                              · exact IH.2.2.2.2.2.2.2.2.2 v1R v2R v3R v4I (σ360)
                                                                              · refine x_iconst (v := (0 : Int32)) C d_Lw_law_1509 (by decide) ?_
                                                                                exact x_zret C (by decide) d_Lw_law_1510
                                                                            · refine x_split (fun h362 => ?_) (fun h362 => ?_)
                                                                              · refine x_tabI (tgt := 1511) C h362 d_Lw_law_40 (by decide) (by decide) rfl (by decide) ?_
                                                                                refine x_aload_n C d_Lw_law_1511 1 rfl ?_
                                                                                refine x_aload_n C d_Lw_law_1512 0 rfl ?_
                                                                                refine x_iload C d_Lw_law_1513 4 rfl ?_
                                                                                refine x_iconst (v := (1 : Int32)) C d_Lw_law_1515 (by decide) ?_
                                                                                refine x_iadd C d_Lw_law_1516 ?_
                                                                                refine x_gd (fun h363 => ?_)
                                                                                refine x_scl C hX hbl (inB_iff.mp h363) d_Lw_law_1517 ?_
                                                                                refine x_aload_n C d_Lw_law_1518 0 rfl ?_
                                                                                refine x_iload C d_Lw_law_1519 4 rfl ?_
                                                                                refine x_iconst (v := (2 : Int32)) C d_Lw_law_1521 (by decide) ?_
                                                                                refine x_iadd C d_Lw_law_1522 ?_
                                                                                refine x_gd (fun h364 => ?_)
                                                                                refine x_scl C hX hbl (inB_iff.mp h364) d_Lw_law_1523 ?_
                                                                                refine x_gd (fun h367 => ?_)
                                                                                refine x_callVI (As := [.int (xs (v4I + (1 : Int32)).toNatClampNeg), .int (xs (v4I + (2 : Int32)).toNatClampNeg)]) C (c_Bp_odds G l v1R (xs (v4I + (1 : Int32)).toNatClampNeg) (xs (v4I + (2 : Int32)).toNatClampNeg) σ) (okO_iff.mp h367) rfl w1636 w1637 w1635 w1638 w120 k_Bp_odds rfl (by decide) (by decide) rfl (Nat.le_of_ble_eq_true rfl) d_Lw_law_1524 (fun r365 σ366 => ?_)
                                                                                refine x_aload_n C d_Lw_law_1527 2 rfl ?_
                                                                                refine x_aload_n C d_Lw_law_1528 0 rfl ?_
                                                                                refine x_iload C d_Lw_law_1529 4 rfl ?_
                                                                                refine x_iconst (v := (1 : Int32)) C d_Lw_law_1531 (by decide) ?_
                                                                                refine x_iadd C d_Lw_law_1532 ?_
                                                                                refine x_gd (fun h368 => ?_)
                                                                                refine x_scl C hX hbl (inB_iff.mp h368) d_Lw_law_1533 ?_
                                                                                refine x_aload_n C d_Lw_law_1534 0 rfl ?_
                                                                                refine x_iload C d_Lw_law_1535 4 rfl ?_
                                                                                refine x_iconst (v := (2 : Int32)) C d_Lw_law_1537 (by decide) ?_
                                                                                refine x_iadd C d_Lw_law_1538 ?_
                                                                                refine x_gd (fun h369 => ?_)
                                                                                refine x_scl C hX hbl (inB_iff.mp h369) d_Lw_law_1539 ?_
                                                                                refine x_gd (fun h372 => ?_)
                                                                                refine x_callVI (As := [.int (xs (v4I + (1 : Int32)).toNatClampNeg), .int (xs (v4I + (2 : Int32)).toNatClampNeg)]) C (c_Md_odds G l v2R (xs (v4I + (1 : Int32)).toNatClampNeg) (xs (v4I + (2 : Int32)).toNatClampNeg) σ366) (okO_iff.mp h372) rfl w2454 w2455 w2453 w2456 w134 k_Md_odds rfl (by decide) (by decide) rfl (Nat.le_of_ble_eq_true rfl) d_Lw_law_1540 (fun r370 σ371 => ?_)
                                                                                refine x_icmp_eq (tgt := 1663) C d_Lw_law_1543 (by decide) (fun _ => ?_) (fun _ => ?_)
                                                                                · exact IH.2.2.2.2.2.2.2.2.2 v1R v2R v3R v4I (σ371)
                                                                                · refine x_iconst (v := (0 : Int32)) C d_Lw_law_1546 (by decide) ?_
                                                                                  exact x_zret C (by decide) d_Lw_law_1547
                                                                              · refine x_split (fun h373 => ?_) (fun h373 => ?_)
                                                                                · refine x_tabI (tgt := 1548) C h373 d_Lw_law_40 (by decide) (by decide) rfl (by decide) ?_
                                                                                  refine x_aload_n C d_Lw_law_1548 1 rfl ?_
                                                                                  refine x_aload_n C d_Lw_law_1549 0 rfl ?_
                                                                                  refine x_iload C d_Lw_law_1550 4 rfl ?_
                                                                                  refine x_iconst (v := (1 : Int32)) C d_Lw_law_1552 (by decide) ?_
                                                                                  refine x_iadd C d_Lw_law_1553 ?_
                                                                                  refine x_gd (fun h374 => ?_)
                                                                                  refine x_scl C hX hbl (inB_iff.mp h374) d_Lw_law_1554 ?_
                                                                                  refine x_aload_n C d_Lw_law_1555 0 rfl ?_
                                                                                  refine x_iload C d_Lw_law_1556 4 rfl ?_
                                                                                  refine x_iconst (v := (2 : Int32)) C d_Lw_law_1558 (by decide) ?_
                                                                                  refine x_iadd C d_Lw_law_1559 ?_
                                                                                  refine x_gd (fun h375 => ?_)
                                                                                  refine x_scl C hX hbl (inB_iff.mp h375) d_Lw_law_1560 ?_
                                                                                  refine x_gd (fun h378 => ?_)
                                                                                  refine x_callVI (As := [.int (xs (v4I + (1 : Int32)).toNatClampNeg), .int (xs (v4I + (2 : Int32)).toNatClampNeg)]) C (c_Bp_guess G l v1R (xs (v4I + (1 : Int32)).toNatClampNeg) (xs (v4I + (2 : Int32)).toNatClampNeg) σ) (okO_iff.mp h378) rfl w1645 w1646 w1644 w1647 w120 k_Bp_guess rfl (by decide) (by decide) rfl (Nat.le_of_ble_eq_true rfl) d_Lw_law_1561 (fun r376 σ377 => ?_)
                                                                                  refine x_aload_n C d_Lw_law_1564 2 rfl ?_
                                                                                  refine x_aload_n C d_Lw_law_1565 0 rfl ?_
                                                                                  refine x_iload C d_Lw_law_1566 4 rfl ?_
                                                                                  refine x_iconst (v := (1 : Int32)) C d_Lw_law_1568 (by decide) ?_
                                                                                  refine x_iadd C d_Lw_law_1569 ?_
                                                                                  refine x_gd (fun h379 => ?_)
                                                                                  refine x_scl C hX hbl (inB_iff.mp h379) d_Lw_law_1570 ?_
                                                                                  refine x_aload_n C d_Lw_law_1571 0 rfl ?_
                                                                                  refine x_iload C d_Lw_law_1572 4 rfl ?_
                                                                                  refine x_iconst (v := (2 : Int32)) C d_Lw_law_1574 (by decide) ?_
                                                                                  refine x_iadd C d_Lw_law_1575 ?_
                                                                                  refine x_gd (fun h380 => ?_)
                                                                                  refine x_scl C hX hbl (inB_iff.mp h380) d_Lw_law_1576 ?_
                                                                                  refine x_gd (fun h383 => ?_)
                                                                                  refine x_callVI (As := [.int (xs (v4I + (1 : Int32)).toNatClampNeg), .int (xs (v4I + (2 : Int32)).toNatClampNeg)]) C (c_Md_guess G l v2R (xs (v4I + (1 : Int32)).toNatClampNeg) (xs (v4I + (2 : Int32)).toNatClampNeg) σ377) (okO_iff.mp h383) rfl w2458 w2459 w2457 w2460 w134 k_Md_guess rfl (by decide) (by decide) rfl (Nat.le_of_ble_eq_true rfl) d_Lw_law_1577 (fun r381 σ382 => ?_)
                                                                                  refine x_icmp_eq (tgt := 1663) C d_Lw_law_1580 (by decide) (fun _ => ?_) (fun _ => ?_)
                                                                                  · exact IH.2.2.2.2.2.2.2.2.2 v1R v2R v3R v4I (σ382)
                                                                                  · refine x_iconst (v := (0 : Int32)) C d_Lw_law_1583 (by decide) ?_
                                                                                    exact x_zret C (by decide) d_Lw_law_1584
                                                                                · refine x_split (fun h384 => ?_) (fun h384 => ?_)
                                                                                  · refine x_tabI (tgt := 1585) C h384 d_Lw_law_40 (by decide) (by decide) rfl (by decide) ?_
                                                                                    refine x_aload_n C d_Lw_law_1585 1 rfl ?_
                                                                                    refine x_aload_n C d_Lw_law_1586 0 rfl ?_
                                                                                    refine x_iload C d_Lw_law_1587 4 rfl ?_
                                                                                    refine x_iconst (v := (1 : Int32)) C d_Lw_law_1589 (by decide) ?_
                                                                                    refine x_iadd C d_Lw_law_1590 ?_
                                                                                    refine x_gd (fun h385 => ?_)
                                                                                    refine x_scl C hX hbl (inB_iff.mp h385) d_Lw_law_1591 ?_
                                                                                    refine x_aload_n C d_Lw_law_1592 0 rfl ?_
                                                                                    refine x_iload C d_Lw_law_1593 4 rfl ?_
                                                                                    refine x_iconst (v := (2 : Int32)) C d_Lw_law_1595 (by decide) ?_
                                                                                    refine x_iadd C d_Lw_law_1596 ?_
                                                                                    refine x_gd (fun h386 => ?_)
                                                                                    refine x_scl C hX hbl (inB_iff.mp h386) d_Lw_law_1597 ?_
                                                                                    refine x_if_eq (tgt := 1605) C d_Lw_law_1598 (by decide) (fun _ => ?_) (fun _ => ?_)
                                                                                    · refine x_iconst (v := (0 : Int32)) C d_Lw_law_1605 (by decide) ?_
                                                                                      exact IH.2.2.2.2.2.2.2.1 v1R v2R v3R v4I v1R (xs (v4I + (1 : Int32)).toNatClampNeg) ((0 : Int32)) (σ)
                                                                                    · refine x_iconst (v := (1 : Int32)) C d_Lw_law_1601 (by decide) ?_
                                                                                      refine x_goto (tgt := 1606) C d_Lw_law_1602 (by decide) ?_
                                                                                      exact IH.2.2.2.2.2.2.2.1 v1R v2R v3R v4I v1R (xs (v4I + (1 : Int32)).toNatClampNeg) ((1 : Int32)) (σ)
                                                                                  · refine x_split (fun h387 => ?_) (fun h387 => ?_)
                                                                                    · refine x_tabI (tgt := 1638) C h387 d_Lw_law_40 (by decide) (by decide) rfl (by decide) ?_
                                                                                      refine x_aload_n C d_Lw_law_1638 1 rfl ?_
                                                                                      refine x_aload_n C d_Lw_law_1639 0 rfl ?_
                                                                                      refine x_iload C d_Lw_law_1640 4 rfl ?_
                                                                                      refine x_iconst (v := (1 : Int32)) C d_Lw_law_1642 (by decide) ?_
                                                                                      refine x_iadd C d_Lw_law_1643 ?_
                                                                                      refine x_gd (fun h388 => ?_)
                                                                                      refine x_scl C hX hbl (inB_iff.mp h388) d_Lw_law_1644 ?_
                                                                                      refine x_gd (fun h391 => ?_)
                                                                                      refine x_callVI (As := [.int (xs (v4I + (1 : Int32)).toNatClampNeg)]) C (c_Bp_count G l v1R (xs (v4I + (1 : Int32)).toNatClampNeg) σ) (okO_iff.mp h391) rfl w1681 w1682 w1680 w1683 w120 k_Bp_count rfl (by decide) (by decide) rfl (Nat.le_of_ble_eq_true rfl) d_Lw_law_1645 (fun r389 σ390 => ?_)
                                                                                      refine x_aload_n C d_Lw_law_1648 2 rfl ?_
                                                                                      refine x_aload_n C d_Lw_law_1649 0 rfl ?_
                                                                                      refine x_iload C d_Lw_law_1650 4 rfl ?_
                                                                                      refine x_iconst (v := (1 : Int32)) C d_Lw_law_1652 (by decide) ?_
                                                                                      refine x_iadd C d_Lw_law_1653 ?_
                                                                                      refine x_gd (fun h392 => ?_)
                                                                                      refine x_scl C hX hbl (inB_iff.mp h392) d_Lw_law_1654 ?_
                                                                                      refine x_gd (fun h395 => ?_)
                                                                                      refine x_callVI (As := [.int (xs (v4I + (1 : Int32)).toNatClampNeg)]) C (c_Md_count G l v2R (xs (v4I + (1 : Int32)).toNatClampNeg) σ390) (okO_iff.mp h395) rfl w2505 w2506 w2504 w2507 w134 k_Md_count rfl (by decide) (by decide) rfl (Nat.le_of_ble_eq_true rfl) d_Lw_law_1655 (fun r393 σ394 => ?_)
                                                                                      refine x_icmp_eq (tgt := 1663) C d_Lw_law_1658 (by decide) (fun _ => ?_) (fun _ => ?_)
                                                                                      · exact IH.2.2.2.2.2.2.2.2.2 v1R v2R v3R v4I (σ394)
                                                                                      · refine x_iconst (v := (0 : Int32)) C d_Lw_law_1661 (by decide) ?_
                                                                                        exact x_zret C (by decide) d_Lw_law_1662
                                                                                    · refine x_tabO (tgt := 1663) C d_Lw_law_40 (by have e0 := lv_neT h3 (a := 0) (by decide); have e1 := lv_neT h22 (a := 1) (by decide); have e2 := lv_neT h29 (a := 2) (by decide); have e3 := lv_neT h38 (a := 3) (by decide); have e4 := lv_neT h47 (a := 4) (by decide); have e5 := lv_neT h56 (a := 5) (by decide); have e6 := lv_neT h59 (a := 6) (by decide); have e7 := lv_neT h70 (a := 7) (by decide); have e8 := lv_neT h79 (a := 8) (by decide); have e9 := lv_neT h88 (a := 9) (by decide); have e10 := lv_neT h97 (a := 10) (by decide); have e11 := lv_neT h108 (a := 11) (by decide); have e12 := lv_neT h117 (a := 12) (by decide); have e13 := lv_neT h126 (a := 13) (by decide); have e14 := lv_neT h139 (a := 14) (by decide); have e15 := lv_neT h156 (a := 15) (by decide); have e16 := lv_neT h169 (a := 16) (by decide); have e17 := lv_neT h178 (a := 17) (by decide); have e18 := lv_neT h189 (a := 18) (by decide); have e19 := lv_neT h198 (a := 19) (by decide); have e20 := lv_neT h207 (a := 20) (by decide); have e21 := lv_neT h216 (a := 21) (by decide); have e22 := lv_neT h225 (a := 22) (by decide); have e23 := lv_neT h234 (a := 23) (by decide); have e24 := lv_neT h243 (a := 24) (by decide); have e25 := lv_neT h250 (a := 25) (by decide); have e26 := lv_neT h261 (a := 26) (by decide); have e27 := lv_neT h270 (a := 27) (by decide); have e28 := lv_neT h279 (a := 28) (by decide); have e29 := lv_neT h292 (a := 29) (by decide); have e30 := lv_neT h303 (a := 30) (by decide); have e31 := lv_neT h306 (a := 31) (by decide); have e32 := lv_neT h317 (a := 32) (by decide); have e33 := lv_neT h326 (a := 33) (by decide); have e34 := lv_neT h337 (a := 34) (by decide); have e35 := lv_neT h346 (a := 35) (by decide); have e36 := lv_neT h353 (a := 36) (by decide); have e37 := lv_neT h362 (a := 37) (by decide); have e38 := lv_neT h373 (a := 38) (by decide); have e39 := lv_neT h384 (a := 39) (by decide); have e40 := lv_neT h387 (a := 40) (by decide); omega) (by decide) ?_
                                                                                      exact IH.2.2.2.2.2.2.2.2.2 v1R v2R v3R v4I (σ)
set_option maxRecDepth 20000 in
theorem s_Lw_law_2 {G : GX} {p : Program} {l : Launch} {e : Env} {s : State} {m : MethodId} {args : Array Value} {below : List Frame} {meth : Method} {c : Code} {z0 u0 n : Nat} (C : Cx G p s m args meth c code 7 "BellPlateLaw" ((some FieldType.boolean))) {b L : Nat} {xs : Nat → Int32} (hX : va_X b L xs s G.2.2.1) (hbl : b < G.2.1) (hE : EX G s G.2.2.1) (hlt : l.stackTraces = false) (IH : I_Lw_law G p l e s m args below meth c b L xs z0 u0 n) (v1R : Nat) (v2R : Nat) (v3R : Nat) (v4I : Int32) (s0R : Nat) (s1I : Int32) (s2I : Int32) (σ : AM) : VX (QM eI G args s below z0 u0) G p l e s m args below meth c 200 z0 u0 7 (lpK (lpn (F_Lw_law L xs) n) (T_Lw_law_2 L xs v1R v2R v3R v4I s0R s1I s2I σ)) 477 [(0, .ref b), (1, .ref v1R), (2, .ref v2R), (3, .ref v3R), (4, .int v4I)] [.int s2I, .int s1I, .ref s0R] σ := by
  unfold T_Lw_law_2
  refine x_gd (fun h3 => ?_)
  refine x_callVI (As := [.int s1I, .int s2I]) C (c_Bp_trial G l s0R s1I s2I σ) (okO_iff.mp h3) rfl w1014 w1015 w1013 w1016 w120 k_Bp_trial rfl (by decide) (by decide) rfl (Nat.le_of_ble_eq_true rfl) d_Lw_law_477 (fun r1 σ2 => ?_)
  refine x_aload_n C d_Lw_law_480 2 rfl ?_
  refine x_aload_n C d_Lw_law_481 0 rfl ?_
  refine x_iload C d_Lw_law_482 4 rfl ?_
  refine x_iconst (v := (1 : Int32)) C d_Lw_law_484 (by decide) ?_
  refine x_iadd C d_Lw_law_485 ?_
  refine x_gd (fun h4 => ?_)
  refine x_scl C hX hbl (inB_iff.mp h4) d_Lw_law_486 ?_
  refine x_aload_n C d_Lw_law_487 0 rfl ?_
  refine x_iload C d_Lw_law_488 4 rfl ?_
  refine x_iconst (v := (2 : Int32)) C d_Lw_law_490 (by decide) ?_
  refine x_iadd C d_Lw_law_491 ?_
  refine x_gd (fun h5 => ?_)
  refine x_scl C hX hbl (inB_iff.mp h5) d_Lw_law_492 ?_
  refine x_if_eq (tgt := 500) C d_Lw_law_493 (by decide) (fun _ => ?_) (fun _ => ?_)
  · refine x_iconst (v := (0 : Int32)) C d_Lw_law_500 (by decide) ?_
    exact IH.2.2.2.1 v1R v2R v3R v4I r1 v2R (xs (v4I + (1 : Int32)).toNatClampNeg) ((0 : Int32)) (σ2)
  · refine x_iconst (v := (1 : Int32)) C d_Lw_law_496 (by decide) ?_
    refine x_goto (tgt := 501) C d_Lw_law_497 (by decide) ?_
    exact IH.2.2.2.1 v1R v2R v3R v4I r1 v2R (xs (v4I + (1 : Int32)).toNatClampNeg) ((1 : Int32)) (σ2)
set_option maxRecDepth 20000 in
theorem s_Lw_law_3 {G : GX} {p : Program} {l : Launch} {e : Env} {s : State} {m : MethodId} {args : Array Value} {below : List Frame} {meth : Method} {c : Code} {z0 u0 n : Nat} (C : Cx G p s m args meth c code 7 "BellPlateLaw" ((some FieldType.boolean))) {b L : Nat} {xs : Nat → Int32} (hX : va_X b L xs s G.2.2.1) (hbl : b < G.2.1) (hE : EX G s G.2.2.1) (hlt : l.stackTraces = false) (IH : I_Lw_law G p l e s m args below meth c b L xs z0 u0 n) (v1R : Nat) (v2R : Nat) (v3R : Nat) (v4I : Int32) (s0I : Int32) (s1R : Nat) (s2I : Int32) (s3I : Int32) (σ : AM) : VX (QM eI G args s below z0 u0) G p l e s m args below meth c 200 z0 u0 7 (lpK (lpn (F_Lw_law L xs) n) (T_Lw_law_3 L xs v1R v2R v3R v4I s0I s1R s2I s3I σ)) 501 [(0, .ref b), (1, .ref v1R), (2, .ref v2R), (3, .ref v3R), (4, .int v4I)] [.int s3I, .int s2I, .ref s1R, .int s0I] σ := by
  unfold T_Lw_law_3
  refine x_gd (fun h3 => ?_)
  refine x_callVI (As := [.int s2I, .int s3I]) C (c_Md_trial G l s1R s2I s3I σ) (okO_iff.mp h3) rfl w2197 w2198 w2196 w2199 w134 k_Md_trial rfl (by decide) (by decide) rfl (Nat.le_of_ble_eq_true rfl) d_Lw_law_501 (fun r1 σ2 => ?_)
  refine x_icmp_eq (tgt := 1663) C d_Lw_law_504 (by decide) (fun _ => ?_) (fun _ => ?_)
  · exact IH.2.2.2.2.2.2.2.2.2 v1R v2R v3R v4I (σ2)
  · refine x_iconst (v := (0 : Int32)) C d_Lw_law_507 (by decide) ?_
    exact x_zret C (by decide) d_Lw_law_508
set_option maxRecDepth 20000 in
theorem s_Lw_law_4 {G : GX} {p : Program} {l : Launch} {e : Env} {s : State} {m : MethodId} {args : Array Value} {below : List Frame} {meth : Method} {c : Code} {z0 u0 n : Nat} (C : Cx G p s m args meth c code 7 "BellPlateLaw" ((some FieldType.boolean))) {b L : Nat} {xs : Nat → Int32} (hX : va_X b L xs s G.2.2.1) (hbl : b < G.2.1) (hE : EX G s G.2.2.1) (hlt : l.stackTraces = false) (IH : I_Lw_law G p l e s m args below meth c b L xs z0 u0 n) (v1R : Nat) (v2R : Nat) (v3R : Nat) (v4I : Int32) (σ : AM) : VX (QM eI G args s below z0 u0) G p l e s m args below meth c 200 z0 u0 7 (lpK (lpn (F_Lw_law L xs) n) (T_Lw_law_4 L xs v1R v2R v3R v4I σ)) 834 [(0, .ref b), (1, .ref v1R), (2, .ref v2R), (3, .ref v3R), (4, .int v4I)] [] σ := by
  unfold T_Lw_law_4
  refine x_goto (tgt := 1663) C d_Lw_law_834 (by decide) ?_
  exact IH.2.2.2.2.2.2.2.2.2 v1R v2R v3R v4I (σ)
set_option maxRecDepth 20000 in
theorem s_Lw_law_5 {G : GX} {p : Program} {l : Launch} {e : Env} {s : State} {m : MethodId} {args : Array Value} {below : List Frame} {meth : Method} {c : Code} {z0 u0 n : Nat} (C : Cx G p s m args meth c code 7 "BellPlateLaw" ((some FieldType.boolean))) {b L : Nat} {xs : Nat → Int32} (hX : va_X b L xs s G.2.2.1) (hbl : b < G.2.1) (hE : EX G s G.2.2.1) (hlt : l.stackTraces = false) (IH : I_Lw_law G p l e s m args below meth c b L xs z0 u0 n) (v1R : Nat) (v2R : Nat) (v3R : Nat) (v4I : Int32) (s0R : Nat) (s1I : Int32) (s2I : Int32) (σ : AM) : VX (QM eI G args s below z0 u0) G p l e s m args below meth c 200 z0 u0 7 (lpK (lpn (F_Lw_law L xs) n) (T_Lw_law_5 L xs v1R v2R v3R v4I s0R s1I s2I σ)) 1305 [(0, .ref b), (1, .ref v1R), (2, .ref v2R), (3, .ref v3R), (4, .int v4I)] [.int s2I, .int s1I, .ref s0R] σ := by
  unfold T_Lw_law_5
  refine x_aload_n C d_Lw_law_1305 0 rfl ?_
  refine x_iload C d_Lw_law_1306 4 rfl ?_
  refine x_iconst (v := (3 : Int32)) C d_Lw_law_1308 (by decide) ?_
  refine x_iadd C d_Lw_law_1309 ?_
  refine x_gd (fun h1 => ?_)
  refine x_scl C hX hbl (inB_iff.mp h1) d_Lw_law_1310 ?_
  refine x_gd (fun h4 => ?_)
  refine x_callVI (As := [.int s1I, .int s2I, .int (xs (v4I + (3 : Int32)).toNatClampNeg)]) C (c_Bp_heavy G l s0R s1I s2I (xs (v4I + (3 : Int32)).toNatClampNeg) σ) (okO_iff.mp h4) rfl w1573 w1574 w1572 w1575 w120 k_Bp_heavy rfl (by decide) (by decide) rfl (Nat.le_of_ble_eq_true rfl) d_Lw_law_1311 (fun r2 σ3 => ?_)
  refine x_aload_n C d_Lw_law_1314 2 rfl ?_
  refine x_aload_n C d_Lw_law_1315 0 rfl ?_
  refine x_iload C d_Lw_law_1316 4 rfl ?_
  refine x_iconst (v := (1 : Int32)) C d_Lw_law_1318 (by decide) ?_
  refine x_iadd C d_Lw_law_1319 ?_
  refine x_gd (fun h5 => ?_)
  refine x_scl C hX hbl (inB_iff.mp h5) d_Lw_law_1320 ?_
  refine x_aload_n C d_Lw_law_1321 0 rfl ?_
  refine x_iload C d_Lw_law_1322 4 rfl ?_
  refine x_iconst (v := (2 : Int32)) C d_Lw_law_1324 (by decide) ?_
  refine x_iadd C d_Lw_law_1325 ?_
  refine x_gd (fun h6 => ?_)
  refine x_scl C hX hbl (inB_iff.mp h6) d_Lw_law_1326 ?_
  refine x_if_eq (tgt := 1334) C d_Lw_law_1327 (by decide) (fun _ => ?_) (fun _ => ?_)
  · refine x_iconst (v := (0 : Int32)) C d_Lw_law_1334 (by decide) ?_
    exact IH.2.2.2.2.2.2.1 v1R v2R v3R v4I r2 v2R (xs (v4I + (1 : Int32)).toNatClampNeg) ((0 : Int32)) (σ3)
  · refine x_iconst (v := (1 : Int32)) C d_Lw_law_1330 (by decide) ?_
    refine x_goto (tgt := 1335) C d_Lw_law_1331 (by decide) ?_
    exact IH.2.2.2.2.2.2.1 v1R v2R v3R v4I r2 v2R (xs (v4I + (1 : Int32)).toNatClampNeg) ((1 : Int32)) (σ3)
set_option maxRecDepth 20000 in
theorem s_Lw_law_6 {G : GX} {p : Program} {l : Launch} {e : Env} {s : State} {m : MethodId} {args : Array Value} {below : List Frame} {meth : Method} {c : Code} {z0 u0 n : Nat} (C : Cx G p s m args meth c code 7 "BellPlateLaw" ((some FieldType.boolean))) {b L : Nat} {xs : Nat → Int32} (hX : va_X b L xs s G.2.2.1) (hbl : b < G.2.1) (hE : EX G s G.2.2.1) (hlt : l.stackTraces = false) (IH : I_Lw_law G p l e s m args below meth c b L xs z0 u0 n) (v1R : Nat) (v2R : Nat) (v3R : Nat) (v4I : Int32) (s0I : Int32) (s1R : Nat) (s2I : Int32) (s3I : Int32) (σ : AM) : VX (QM eI G args s below z0 u0) G p l e s m args below meth c 200 z0 u0 7 (lpK (lpn (F_Lw_law L xs) n) (T_Lw_law_6 L xs v1R v2R v3R v4I s0I s1R s2I s3I σ)) 1335 [(0, .ref b), (1, .ref v1R), (2, .ref v2R), (3, .ref v3R), (4, .int v4I)] [.int s3I, .int s2I, .ref s1R, .int s0I] σ := by
  unfold T_Lw_law_6
  refine x_aload_n C d_Lw_law_1335 0 rfl ?_
  refine x_iload C d_Lw_law_1336 4 rfl ?_
  refine x_iconst (v := (3 : Int32)) C d_Lw_law_1338 (by decide) ?_
  refine x_iadd C d_Lw_law_1339 ?_
  refine x_gd (fun h1 => ?_)
  refine x_scl C hX hbl (inB_iff.mp h1) d_Lw_law_1340 ?_
  refine x_gd (fun h4 => ?_)
  refine x_callVI (As := [.int s2I, .int s3I, .int (xs (v4I + (3 : Int32)).toNatClampNeg)]) C (c_Md_heavy G l s1R s2I s3I (xs (v4I + (3 : Int32)).toNatClampNeg) σ) (okO_iff.mp h4) rfl w2477 w2478 w2476 w2479 w134 k_Md_heavy rfl (by decide) (by decide) rfl (Nat.le_of_ble_eq_true rfl) d_Lw_law_1341 (fun r2 σ3 => ?_)
  refine x_icmp_eq (tgt := 1663) C d_Lw_law_1344 (by decide) (fun _ => ?_) (fun _ => ?_)
  · exact IH.2.2.2.2.2.2.2.2.2 v1R v2R v3R v4I (σ3)
  · refine x_iconst (v := (0 : Int32)) C d_Lw_law_1347 (by decide) ?_
    exact x_zret C (by decide) d_Lw_law_1348
set_option maxRecDepth 20000 in
theorem s_Lw_law_7 {G : GX} {p : Program} {l : Launch} {e : Env} {s : State} {m : MethodId} {args : Array Value} {below : List Frame} {meth : Method} {c : Code} {z0 u0 n : Nat} (C : Cx G p s m args meth c code 7 "BellPlateLaw" ((some FieldType.boolean))) {b L : Nat} {xs : Nat → Int32} (hX : va_X b L xs s G.2.2.1) (hbl : b < G.2.1) (hE : EX G s G.2.2.1) (hlt : l.stackTraces = false) (IH : I_Lw_law G p l e s m args below meth c b L xs z0 u0 n) (v1R : Nat) (v2R : Nat) (v3R : Nat) (v4I : Int32) (s0R : Nat) (s1I : Int32) (s2I : Int32) (σ : AM) : VX (QM eI G args s below z0 u0) G p l e s m args below meth c 200 z0 u0 7 (lpK (lpn (F_Lw_law L xs) n) (T_Lw_law_7 L xs v1R v2R v3R v4I s0R s1I s2I σ)) 1606 [(0, .ref b), (1, .ref v1R), (2, .ref v2R), (3, .ref v3R), (4, .int v4I)] [.int s2I, .int s1I, .ref s0R] σ := by
  unfold T_Lw_law_7
  refine x_gd (fun h3 => ?_)
  refine x_callVI (As := [.int s1I, .int s2I]) C (c_Bp_mark G l s0R s1I s2I σ) (okO_iff.mp h3) rfl w1669 w1670 w1668 w1671 w120 k_Bp_mark rfl (by decide) (by decide) rfl (Nat.le_of_ble_eq_true rfl) d_Lw_law_1606 (fun r1 σ2 => ?_)
  refine x_aload_n C d_Lw_law_1609 2 rfl ?_
  refine x_aload_n C d_Lw_law_1610 0 rfl ?_
  refine x_iload C d_Lw_law_1611 4 rfl ?_
  refine x_iconst (v := (1 : Int32)) C d_Lw_law_1613 (by decide) ?_
  refine x_iadd C d_Lw_law_1614 ?_
  refine x_gd (fun h4 => ?_)
  refine x_scl C hX hbl (inB_iff.mp h4) d_Lw_law_1615 ?_
  refine x_aload_n C d_Lw_law_1616 0 rfl ?_
  refine x_iload C d_Lw_law_1617 4 rfl ?_
  refine x_iconst (v := (2 : Int32)) C d_Lw_law_1619 (by decide) ?_
  refine x_iadd C d_Lw_law_1620 ?_
  refine x_gd (fun h5 => ?_)
  refine x_scl C hX hbl (inB_iff.mp h5) d_Lw_law_1621 ?_
  refine x_if_eq (tgt := 1629) C d_Lw_law_1622 (by decide) (fun _ => ?_) (fun _ => ?_)
  · refine x_iconst (v := (0 : Int32)) C d_Lw_law_1629 (by decide) ?_
    exact IH.2.2.2.2.2.2.2.2.1 v1R v2R v3R v4I r1 v2R (xs (v4I + (1 : Int32)).toNatClampNeg) ((0 : Int32)) (σ2)
  · refine x_iconst (v := (1 : Int32)) C d_Lw_law_1625 (by decide) ?_
    refine x_goto (tgt := 1630) C d_Lw_law_1626 (by decide) ?_
    exact IH.2.2.2.2.2.2.2.2.1 v1R v2R v3R v4I r1 v2R (xs (v4I + (1 : Int32)).toNatClampNeg) ((1 : Int32)) (σ2)
set_option maxRecDepth 20000 in
theorem s_Lw_law_8 {G : GX} {p : Program} {l : Launch} {e : Env} {s : State} {m : MethodId} {args : Array Value} {below : List Frame} {meth : Method} {c : Code} {z0 u0 n : Nat} (C : Cx G p s m args meth c code 7 "BellPlateLaw" ((some FieldType.boolean))) {b L : Nat} {xs : Nat → Int32} (hX : va_X b L xs s G.2.2.1) (hbl : b < G.2.1) (hE : EX G s G.2.2.1) (hlt : l.stackTraces = false) (IH : I_Lw_law G p l e s m args below meth c b L xs z0 u0 n) (v1R : Nat) (v2R : Nat) (v3R : Nat) (v4I : Int32) (s0I : Int32) (s1R : Nat) (s2I : Int32) (s3I : Int32) (σ : AM) : VX (QM eI G args s below z0 u0) G p l e s m args below meth c 200 z0 u0 7 (lpK (lpn (F_Lw_law L xs) n) (T_Lw_law_8 L xs v1R v2R v3R v4I s0I s1R s2I s3I σ)) 1630 [(0, .ref b), (1, .ref v1R), (2, .ref v2R), (3, .ref v3R), (4, .int v4I)] [.int s3I, .int s2I, .ref s1R, .int s0I] σ := by
  unfold T_Lw_law_8
  refine x_gd (fun h3 => ?_)
  refine x_callVI (As := [.int s2I, .int s3I]) C (c_Md_mark G l s1R s2I s3I σ) (okO_iff.mp h3) rfl w2501 w2502 w2500 w2503 w134 k_Md_mark rfl (by decide) (by decide) rfl (Nat.le_of_ble_eq_true rfl) d_Lw_law_1630 (fun r1 σ2 => ?_)
  refine x_icmp_eq (tgt := 1663) C d_Lw_law_1633 (by decide) (fun _ => ?_) (fun _ => ?_)
  · exact IH.2.2.2.2.2.2.2.2.2 v1R v2R v3R v4I (σ2)
  · refine x_iconst (v := (0 : Int32)) C d_Lw_law_1636 (by decide) ?_
    exact x_zret C (by decide) d_Lw_law_1637
set_option maxRecDepth 20000 in
theorem s_Lw_law_9 {G : GX} {p : Program} {l : Launch} {e : Env} {s : State} {m : MethodId} {args : Array Value} {below : List Frame} {meth : Method} {c : Code} {z0 u0 n : Nat} (C : Cx G p s m args meth c code 7 "BellPlateLaw" ((some FieldType.boolean))) {b L : Nat} {xs : Nat → Int32} (hX : va_X b L xs s G.2.2.1) (hbl : b < G.2.1) (hE : EX G s G.2.2.1) (hlt : l.stackTraces = false) (IH : I_Lw_law G p l e s m args below meth c b L xs z0 u0 n) (v1R : Nat) (v2R : Nat) (v3R : Nat) (v4I : Int32) (σ : AM) : VX (QM eI G args s below z0 u0) G p l e s m args below meth c 200 z0 u0 7 (lpK (lpn (F_Lw_law L xs) n) (T_Lw_law_9 L xs v1R v2R v3R v4I σ)) 1663 [(0, .ref b), (1, .ref v1R), (2, .ref v2R), (3, .ref v3R), (4, .int v4I)] [] σ := by
  unfold T_Lw_law_9
  refine x_iinc (v := v4I + (7 : Int32)) (lv' := [(4, .int (v4I + (7 : Int32))), (0, .ref b), (1, .ref v1R), (2, .ref v2R), (3, .ref v3R)]) C d_Lw_law_1663 4 rfl rfl (by decide) rfl ?_
  refine x_goto (tgt := 23) C d_Lw_law_1666 (by decide) ?_
  refine x_lv [1, 2, 3, 4, 0] rfl ?_
  exact IH.2.1 v1R v2R v3R (v4I + (7 : Int32)) (σ)
theorem i_Lw_law {G : GX} {p : Program} {l : Launch} {e : Env} {s : State} {m : MethodId} {args : Array Value} {below : List Frame} {meth : Method} {c : Code} {z0 u0 : Nat} (C : Cx G p s m args meth c code 7 "BellPlateLaw" ((some FieldType.boolean))) {b L : Nat} {xs : Nat → Int32} (hX : va_X b L xs s G.2.2.1) (hbl : b < G.2.1) (hE : EX G s G.2.2.1) (hlt : l.stackTraces = false) (n : Nat) : I_Lw_law G p l e s m args below meth c b L xs z0 u0 n := by
  induction n with
  | zero => exact ⟨fun _ => x_none, fun _ _ _ _ _ => x_none, fun _ _ _ _ _ _ _ _ => x_none, fun _ _ _ _ _ _ _ _ _ => x_none, fun _ _ _ _ _ => x_none, fun _ _ _ _ _ _ _ _ => x_none, fun _ _ _ _ _ _ _ _ _ => x_none, fun _ _ _ _ _ _ _ _ => x_none, fun _ _ _ _ _ _ _ _ _ => x_none, fun _ _ _ _ _ => x_none⟩
  | succ n IH => exact ⟨fun σ => s_Lw_law_0 C hX hbl hE hlt IH σ, fun v1R v2R v3R v4I σ => s_Lw_law_1 C hX hbl hE hlt IH v1R v2R v3R v4I σ, fun v1R v2R v3R v4I s0R s1I s2I σ => s_Lw_law_2 C hX hbl hE hlt IH v1R v2R v3R v4I s0R s1I s2I σ, fun v1R v2R v3R v4I s0I s1R s2I s3I σ => s_Lw_law_3 C hX hbl hE hlt IH v1R v2R v3R v4I s0I s1R s2I s3I σ, fun v1R v2R v3R v4I σ => s_Lw_law_4 C hX hbl hE hlt IH v1R v2R v3R v4I σ, fun v1R v2R v3R v4I s0R s1I s2I σ => s_Lw_law_5 C hX hbl hE hlt IH v1R v2R v3R v4I s0R s1I s2I σ, fun v1R v2R v3R v4I s0I s1R s2I s3I σ => s_Lw_law_6 C hX hbl hE hlt IH v1R v2R v3R v4I s0I s1R s2I s3I σ, fun v1R v2R v3R v4I s0R s1I s2I σ => s_Lw_law_7 C hX hbl hE hlt IH v1R v2R v3R v4I s0R s1I s2I σ, fun v1R v2R v3R v4I s0I s1R s2I s3I σ => s_Lw_law_8 C hX hbl hE hlt IH v1R v2R v3R v4I s0I s1R s2I s3I σ, fun v1R v2R v3R v4I σ => s_Lw_law_9 C hX hbl hE hlt IH v1R v2R v3R v4I σ⟩
