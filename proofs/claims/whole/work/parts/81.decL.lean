/-! The law: its instructions. -/
def m_law : zM := (x, code, 7, some .boolean)
theorem dW_0 : decode m_law.2.1 0 = .ok (.new 8, 3) := by decide +kernel
theorem dW_3 : decode m_law.2.1 3 = .ok (.dup, 1) := by decide +kernel
theorem dW_4 : decode m_law.2.1 4 = .ok (.invokespecial 17, 3) := by decide +kernel
theorem dW_7 : decode m_law.2.1 7 = .ok (.astore_n 1, 1) := by decide +kernel
theorem dW_8 : decode m_law.2.1 8 = .ok (.new 18, 3) := by decide +kernel
theorem dW_11 : decode m_law.2.1 11 = .ok (.dup, 1) := by decide +kernel
theorem dW_12 : decode m_law.2.1 12 = .ok (.invokespecial 20, 3) := by decide +kernel
theorem dW_15 : decode m_law.2.1 15 = .ok (.astore_n 2, 1) := by decide +kernel
theorem dW_16 : decode m_law.2.1 16 = .ok (.iconst 1, 1) := by decide +kernel
theorem dW_17 : decode m_law.2.1 17 = .ok (.newarray .long, 2) := by decide +kernel
theorem dW_19 : decode m_law.2.1 19 = .ok (.astore_n 3, 1) := by decide +kernel
theorem dW_20 : decode m_law.2.1 20 = .ok (.iconst 0, 1) := by decide +kernel
theorem dW_21 : decode m_law.2.1 21 = .ok (.istore 4, 2) := by decide +kernel
theorem dW_23 : decode m_law.2.1 23 = .ok (.iload 4, 2) := by decide +kernel
theorem dW_25 : decode m_law.2.1 25 = .ok (.aload_n 0, 1) := by decide +kernel
theorem dW_26 : decode m_law.2.1 26 = .ok (.arraylength, 1) := by decide +kernel
theorem dW_27 : decode m_law.2.1 27 = .ok (.bipush 6, 2) := by decide +kernel
theorem dW_29 : decode m_law.2.1 29 = .ok (.isub, 1) := by decide +kernel
theorem dW_30 : decode m_law.2.1 30 = .ok (.if_icmp .gt 1501, 3) := by decide +kernel
theorem dW_33 : decode m_law.2.1 33 = .ok (.aload_n 0, 1) := by decide +kernel
theorem dW_34 : decode m_law.2.1 34 = .ok (.iload 4, 2) := by decide +kernel
theorem dW_36 : decode m_law.2.1 36 = .ok (.iaload, 1) := by decide +kernel
theorem dW_37 : decode m_law.2.1 37 = .ok (.bipush 63, 2) := by decide +kernel
theorem dW_39 : decode m_law.2.1 39 = .ok (.iand, 1) := by decide +kernel
theorem dW_40 : decode m_law.2.1 40 = .ok (.tableswitch 1485 0 44 #[196, 269, 294, 319, 344, 381, 406, 431, 444, 469, 506, 574, 599, 624, 637, 674, 699, 736, 761, 786, 823, 836, 861, 887, 924, 949, 974, 999, 1024, 1049, 1086, 1111, 1148, 1173, 1198, 1223, 1248, 1273, 1286, 1311, 1336, 1373, 1398, 1423, 1460], 196) := by decide +kernel
theorem dW_236 : decode m_law.2.1 236 = .ok (.aload_n 1, 1) := by decide +kernel
theorem dW_237 : decode m_law.2.1 237 = .ok (.aload_n 0, 1) := by decide +kernel
theorem dW_238 : decode m_law.2.1 238 = .ok (.iload 4, 2) := by decide +kernel
theorem dW_240 : decode m_law.2.1 240 = .ok (.iconst 1, 1) := by decide +kernel
theorem dW_241 : decode m_law.2.1 241 = .ok (.iadd, 1) := by decide +kernel
theorem dW_242 : decode m_law.2.1 242 = .ok (.iaload, 1) := by decide +kernel
theorem dW_243 : decode m_law.2.1 243 = .ok (.aload_n 0, 1) := by decide +kernel
theorem dW_244 : decode m_law.2.1 244 = .ok (.iload 4, 2) := by decide +kernel
theorem dW_246 : decode m_law.2.1 246 = .ok (.iconst 2, 1) := by decide +kernel
theorem dW_247 : decode m_law.2.1 247 = .ok (.iadd, 1) := by decide +kernel
theorem dW_248 : decode m_law.2.1 248 = .ok (.iaload, 1) := by decide +kernel
theorem dW_249 : decode m_law.2.1 249 = .ok (.aload_n 0, 1) := by decide +kernel
theorem dW_250 : decode m_law.2.1 250 = .ok (.iload 4, 2) := by decide +kernel
theorem dW_252 : decode m_law.2.1 252 = .ok (.iconst 3, 1) := by decide +kernel
theorem dW_253 : decode m_law.2.1 253 = .ok (.iadd, 1) := by decide +kernel
theorem dW_254 : decode m_law.2.1 254 = .ok (.iaload, 1) := by decide +kernel
theorem dW_255 : decode m_law.2.1 255 = .ok (.aload_n 0, 1) := by decide +kernel
theorem dW_256 : decode m_law.2.1 256 = .ok (.iload 4, 2) := by decide +kernel
theorem dW_258 : decode m_law.2.1 258 = .ok (.iconst 4, 1) := by decide +kernel
theorem dW_259 : decode m_law.2.1 259 = .ok (.iadd, 1) := by decide +kernel
theorem dW_260 : decode m_law.2.1 260 = .ok (.iaload, 1) := by decide +kernel
theorem dW_261 : decode m_law.2.1 261 = .ok (.aload_n 0, 1) := by decide +kernel
theorem dW_262 : decode m_law.2.1 262 = .ok (.iload 4, 2) := by decide +kernel
theorem dW_264 : decode m_law.2.1 264 = .ok (.iconst 5, 1) := by decide +kernel
theorem dW_265 : decode m_law.2.1 265 = .ok (.iadd, 1) := by decide +kernel
theorem dW_266 : decode m_law.2.1 266 = .ok (.iaload, 1) := by decide +kernel
theorem dW_267 : decode m_law.2.1 267 = .ok (.invokevirtual 21, 3) := by decide +kernel
theorem dW_270 : decode m_law.2.1 270 = .ok (.aload_n 2, 1) := by decide +kernel
theorem dW_271 : decode m_law.2.1 271 = .ok (.aload_n 0, 1) := by decide +kernel
theorem dW_272 : decode m_law.2.1 272 = .ok (.iload 4, 2) := by decide +kernel
theorem dW_274 : decode m_law.2.1 274 = .ok (.iconst 1, 1) := by decide +kernel
theorem dW_275 : decode m_law.2.1 275 = .ok (.iadd, 1) := by decide +kernel
theorem dW_276 : decode m_law.2.1 276 = .ok (.iaload, 1) := by decide +kernel
theorem dW_277 : decode m_law.2.1 277 = .ok (.aload_n 0, 1) := by decide +kernel
theorem dW_278 : decode m_law.2.1 278 = .ok (.iload 4, 2) := by decide +kernel
theorem dW_280 : decode m_law.2.1 280 = .ok (.iconst 2, 1) := by decide +kernel
theorem dW_281 : decode m_law.2.1 281 = .ok (.iadd, 1) := by decide +kernel
theorem dW_282 : decode m_law.2.1 282 = .ok (.iaload, 1) := by decide +kernel
theorem dW_283 : decode m_law.2.1 283 = .ok (.aload_n 0, 1) := by decide +kernel
theorem dW_284 : decode m_law.2.1 284 = .ok (.iload 4, 2) := by decide +kernel
theorem dW_286 : decode m_law.2.1 286 = .ok (.iconst 3, 1) := by decide +kernel
theorem dW_287 : decode m_law.2.1 287 = .ok (.iadd, 1) := by decide +kernel
theorem dW_288 : decode m_law.2.1 288 = .ok (.iaload, 1) := by decide +kernel
theorem dW_289 : decode m_law.2.1 289 = .ok (.aload_n 0, 1) := by decide +kernel
theorem dW_290 : decode m_law.2.1 290 = .ok (.iload 4, 2) := by decide +kernel
theorem dW_292 : decode m_law.2.1 292 = .ok (.iconst 4, 1) := by decide +kernel
theorem dW_293 : decode m_law.2.1 293 = .ok (.iadd, 1) := by decide +kernel
theorem dW_294 : decode m_law.2.1 294 = .ok (.iaload, 1) := by decide +kernel
theorem dW_295 : decode m_law.2.1 295 = .ok (.aload_n 0, 1) := by decide +kernel
theorem dW_296 : decode m_law.2.1 296 = .ok (.iload 4, 2) := by decide +kernel
theorem dW_298 : decode m_law.2.1 298 = .ok (.iconst 5, 1) := by decide +kernel
theorem dW_299 : decode m_law.2.1 299 = .ok (.iadd, 1) := by decide +kernel
theorem dW_300 : decode m_law.2.1 300 = .ok (.iaload, 1) := by decide +kernel
theorem dW_301 : decode m_law.2.1 301 = .ok (.invokevirtual 25, 3) := by decide +kernel
theorem dW_304 : decode m_law.2.1 304 = .ok (.if_icmp .eq 1221, 3) := by decide +kernel
theorem dW_307 : decode m_law.2.1 307 = .ok (.iconst 0, 1) := by decide +kernel
theorem dW_308 : decode m_law.2.1 308 = .ok (.ireturn, 1) := by decide +kernel
theorem dW_309 : decode m_law.2.1 309 = .ok (.aload_n 1, 1) := by decide +kernel
theorem dW_310 : decode m_law.2.1 310 = .ok (.aload_n 0, 1) := by decide +kernel
theorem dW_311 : decode m_law.2.1 311 = .ok (.iload 4, 2) := by decide +kernel
theorem dW_313 : decode m_law.2.1 313 = .ok (.iconst 1, 1) := by decide +kernel
theorem dW_314 : decode m_law.2.1 314 = .ok (.iadd, 1) := by decide +kernel
theorem dW_315 : decode m_law.2.1 315 = .ok (.iaload, 1) := by decide +kernel
theorem dW_316 : decode m_law.2.1 316 = .ok (.invokevirtual 26, 3) := by decide +kernel
theorem dW_319 : decode m_law.2.1 319 = .ok (.aload_n 2, 1) := by decide +kernel
theorem dW_320 : decode m_law.2.1 320 = .ok (.aload_n 0, 1) := by decide +kernel
theorem dW_321 : decode m_law.2.1 321 = .ok (.iload 4, 2) := by decide +kernel
theorem dW_323 : decode m_law.2.1 323 = .ok (.iconst 1, 1) := by decide +kernel
theorem dW_324 : decode m_law.2.1 324 = .ok (.iadd, 1) := by decide +kernel
theorem dW_325 : decode m_law.2.1 325 = .ok (.iaload, 1) := by decide +kernel
theorem dW_326 : decode m_law.2.1 326 = .ok (.invokevirtual 30, 3) := by decide +kernel
theorem dW_329 : decode m_law.2.1 329 = .ok (.if_icmp .eq 1196, 3) := by decide +kernel
theorem dW_332 : decode m_law.2.1 332 = .ok (.iconst 0, 1) := by decide +kernel
theorem dW_333 : decode m_law.2.1 333 = .ok (.ireturn, 1) := by decide +kernel
theorem dW_334 : decode m_law.2.1 334 = .ok (.aload_n 1, 1) := by decide +kernel
theorem dW_335 : decode m_law.2.1 335 = .ok (.aload_n 0, 1) := by decide +kernel
theorem dW_336 : decode m_law.2.1 336 = .ok (.iload 4, 2) := by decide +kernel
theorem dW_338 : decode m_law.2.1 338 = .ok (.iconst 1, 1) := by decide +kernel
theorem dW_339 : decode m_law.2.1 339 = .ok (.iadd, 1) := by decide +kernel
theorem dW_340 : decode m_law.2.1 340 = .ok (.iaload, 1) := by decide +kernel
theorem dW_341 : decode m_law.2.1 341 = .ok (.invokevirtual 31, 3) := by decide +kernel
theorem dW_344 : decode m_law.2.1 344 = .ok (.aload_n 2, 1) := by decide +kernel
theorem dW_345 : decode m_law.2.1 345 = .ok (.aload_n 0, 1) := by decide +kernel
theorem dW_346 : decode m_law.2.1 346 = .ok (.iload 4, 2) := by decide +kernel
theorem dW_348 : decode m_law.2.1 348 = .ok (.iconst 1, 1) := by decide +kernel
theorem dW_349 : decode m_law.2.1 349 = .ok (.iadd, 1) := by decide +kernel
theorem dW_350 : decode m_law.2.1 350 = .ok (.iaload, 1) := by decide +kernel
theorem dW_351 : decode m_law.2.1 351 = .ok (.invokevirtual 34, 3) := by decide +kernel
theorem dW_354 : decode m_law.2.1 354 = .ok (.if_icmp .eq 1171, 3) := by decide +kernel
theorem dW_357 : decode m_law.2.1 357 = .ok (.iconst 0, 1) := by decide +kernel
theorem dW_358 : decode m_law.2.1 358 = .ok (.ireturn, 1) := by decide +kernel
theorem dW_359 : decode m_law.2.1 359 = .ok (.aload_n 1, 1) := by decide +kernel
theorem dW_360 : decode m_law.2.1 360 = .ok (.aload_n 0, 1) := by decide +kernel
theorem dW_361 : decode m_law.2.1 361 = .ok (.iload 4, 2) := by decide +kernel
theorem dW_363 : decode m_law.2.1 363 = .ok (.iconst 1, 1) := by decide +kernel
theorem dW_364 : decode m_law.2.1 364 = .ok (.iadd, 1) := by decide +kernel
theorem dW_365 : decode m_law.2.1 365 = .ok (.iaload, 1) := by decide +kernel
theorem dW_366 : decode m_law.2.1 366 = .ok (.invokevirtual 35, 3) := by decide +kernel
theorem dW_369 : decode m_law.2.1 369 = .ok (.aload_n 2, 1) := by decide +kernel
theorem dW_370 : decode m_law.2.1 370 = .ok (.aload_n 0, 1) := by decide +kernel
theorem dW_371 : decode m_law.2.1 371 = .ok (.iload 4, 2) := by decide +kernel
theorem dW_373 : decode m_law.2.1 373 = .ok (.iconst 1, 1) := by decide +kernel
theorem dW_374 : decode m_law.2.1 374 = .ok (.iadd, 1) := by decide +kernel
theorem dW_375 : decode m_law.2.1 375 = .ok (.iaload, 1) := by decide +kernel
theorem dW_376 : decode m_law.2.1 376 = .ok (.invokevirtual 38, 3) := by decide +kernel
theorem dW_379 : decode m_law.2.1 379 = .ok (.if_icmp .eq 1146, 3) := by decide +kernel
theorem dW_382 : decode m_law.2.1 382 = .ok (.iconst 0, 1) := by decide +kernel
theorem dW_383 : decode m_law.2.1 383 = .ok (.ireturn, 1) := by decide +kernel
theorem dW_384 : decode m_law.2.1 384 = .ok (.aload_n 1, 1) := by decide +kernel
theorem dW_385 : decode m_law.2.1 385 = .ok (.aload_n 0, 1) := by decide +kernel
theorem dW_386 : decode m_law.2.1 386 = .ok (.iload 4, 2) := by decide +kernel
theorem dW_388 : decode m_law.2.1 388 = .ok (.iconst 1, 1) := by decide +kernel
theorem dW_389 : decode m_law.2.1 389 = .ok (.iadd, 1) := by decide +kernel
theorem dW_390 : decode m_law.2.1 390 = .ok (.iaload, 1) := by decide +kernel
theorem dW_391 : decode m_law.2.1 391 = .ok (.aload_n 0, 1) := by decide +kernel
theorem dW_392 : decode m_law.2.1 392 = .ok (.iload 4, 2) := by decide +kernel
theorem dW_394 : decode m_law.2.1 394 = .ok (.iconst 2, 1) := by decide +kernel
theorem dW_395 : decode m_law.2.1 395 = .ok (.iadd, 1) := by decide +kernel
theorem dW_396 : decode m_law.2.1 396 = .ok (.iaload, 1) := by decide +kernel
theorem dW_397 : decode m_law.2.1 397 = .ok (.invokevirtual 39, 3) := by decide +kernel
theorem dW_400 : decode m_law.2.1 400 = .ok (.aload_n 2, 1) := by decide +kernel
theorem dW_401 : decode m_law.2.1 401 = .ok (.aload_n 0, 1) := by decide +kernel
theorem dW_402 : decode m_law.2.1 402 = .ok (.iload 4, 2) := by decide +kernel
theorem dW_404 : decode m_law.2.1 404 = .ok (.iconst 1, 1) := by decide +kernel
theorem dW_405 : decode m_law.2.1 405 = .ok (.iadd, 1) := by decide +kernel
theorem dW_406 : decode m_law.2.1 406 = .ok (.iaload, 1) := by decide +kernel
theorem dW_407 : decode m_law.2.1 407 = .ok (.aload_n 0, 1) := by decide +kernel
theorem dW_408 : decode m_law.2.1 408 = .ok (.iload 4, 2) := by decide +kernel
theorem dW_410 : decode m_law.2.1 410 = .ok (.iconst 2, 1) := by decide +kernel
theorem dW_411 : decode m_law.2.1 411 = .ok (.iadd, 1) := by decide +kernel
theorem dW_412 : decode m_law.2.1 412 = .ok (.iaload, 1) := by decide +kernel
theorem dW_413 : decode m_law.2.1 413 = .ok (.invokevirtual 42, 3) := by decide +kernel
theorem dW_416 : decode m_law.2.1 416 = .ok (.if_icmp .eq 1109, 3) := by decide +kernel
theorem dW_419 : decode m_law.2.1 419 = .ok (.iconst 0, 1) := by decide +kernel
theorem dW_420 : decode m_law.2.1 420 = .ok (.ireturn, 1) := by decide +kernel
theorem dW_421 : decode m_law.2.1 421 = .ok (.aload_n 1, 1) := by decide +kernel
theorem dW_422 : decode m_law.2.1 422 = .ok (.aload_n 0, 1) := by decide +kernel
theorem dW_423 : decode m_law.2.1 423 = .ok (.iload 4, 2) := by decide +kernel
theorem dW_425 : decode m_law.2.1 425 = .ok (.iconst 1, 1) := by decide +kernel
theorem dW_426 : decode m_law.2.1 426 = .ok (.iadd, 1) := by decide +kernel
theorem dW_427 : decode m_law.2.1 427 = .ok (.iaload, 1) := by decide +kernel
theorem dW_428 : decode m_law.2.1 428 = .ok (.invokevirtual 43, 3) := by decide +kernel
theorem dW_431 : decode m_law.2.1 431 = .ok (.aload_n 2, 1) := by decide +kernel
theorem dW_432 : decode m_law.2.1 432 = .ok (.aload_n 0, 1) := by decide +kernel
theorem dW_433 : decode m_law.2.1 433 = .ok (.iload 4, 2) := by decide +kernel
theorem dW_435 : decode m_law.2.1 435 = .ok (.iconst 1, 1) := by decide +kernel
theorem dW_436 : decode m_law.2.1 436 = .ok (.iadd, 1) := by decide +kernel
theorem dW_437 : decode m_law.2.1 437 = .ok (.iaload, 1) := by decide +kernel
theorem dW_438 : decode m_law.2.1 438 = .ok (.invokevirtual 46, 3) := by decide +kernel
theorem dW_441 : decode m_law.2.1 441 = .ok (.if_icmp .eq 1084, 3) := by decide +kernel
theorem dW_444 : decode m_law.2.1 444 = .ok (.iconst 0, 1) := by decide +kernel
theorem dW_445 : decode m_law.2.1 445 = .ok (.ireturn, 1) := by decide +kernel
theorem dW_446 : decode m_law.2.1 446 = .ok (.aload_n 1, 1) := by decide +kernel
theorem dW_447 : decode m_law.2.1 447 = .ok (.aload_n 0, 1) := by decide +kernel
theorem dW_448 : decode m_law.2.1 448 = .ok (.iload 4, 2) := by decide +kernel
theorem dW_450 : decode m_law.2.1 450 = .ok (.iconst 1, 1) := by decide +kernel
theorem dW_451 : decode m_law.2.1 451 = .ok (.iadd, 1) := by decide +kernel
theorem dW_452 : decode m_law.2.1 452 = .ok (.iaload, 1) := by decide +kernel
theorem dW_453 : decode m_law.2.1 453 = .ok (.invokevirtual 47, 3) := by decide +kernel
theorem dW_456 : decode m_law.2.1 456 = .ok (.aload_n 2, 1) := by decide +kernel
theorem dW_457 : decode m_law.2.1 457 = .ok (.aload_n 0, 1) := by decide +kernel
theorem dW_458 : decode m_law.2.1 458 = .ok (.iload 4, 2) := by decide +kernel
theorem dW_460 : decode m_law.2.1 460 = .ok (.iconst 1, 1) := by decide +kernel
theorem dW_461 : decode m_law.2.1 461 = .ok (.iadd, 1) := by decide +kernel
theorem dW_462 : decode m_law.2.1 462 = .ok (.iaload, 1) := by decide +kernel
theorem dW_463 : decode m_law.2.1 463 = .ok (.invokevirtual 50, 3) := by decide +kernel
theorem dW_466 : decode m_law.2.1 466 = .ok (.if_icmp .eq 1059, 3) := by decide +kernel
theorem dW_469 : decode m_law.2.1 469 = .ok (.iconst 0, 1) := by decide +kernel
theorem dW_470 : decode m_law.2.1 470 = .ok (.ireturn, 1) := by decide +kernel
theorem dW_471 : decode m_law.2.1 471 = .ok (.aload_n 1, 1) := by decide +kernel
theorem dW_472 : decode m_law.2.1 472 = .ok (.invokevirtual 51, 3) := by decide +kernel
theorem dW_475 : decode m_law.2.1 475 = .ok (.aload_n 2, 1) := by decide +kernel
theorem dW_476 : decode m_law.2.1 476 = .ok (.invokevirtual 55, 3) := by decide +kernel
theorem dW_479 : decode m_law.2.1 479 = .ok (.if_icmp .eq 1046, 3) := by decide +kernel
theorem dW_482 : decode m_law.2.1 482 = .ok (.iconst 0, 1) := by decide +kernel
theorem dW_483 : decode m_law.2.1 483 = .ok (.ireturn, 1) := by decide +kernel
theorem dW_484 : decode m_law.2.1 484 = .ok (.aload_n 1, 1) := by decide +kernel
theorem dW_485 : decode m_law.2.1 485 = .ok (.aload_n 0, 1) := by decide +kernel
theorem dW_486 : decode m_law.2.1 486 = .ok (.iload 4, 2) := by decide +kernel
theorem dW_488 : decode m_law.2.1 488 = .ok (.iconst 1, 1) := by decide +kernel
theorem dW_489 : decode m_law.2.1 489 = .ok (.iadd, 1) := by decide +kernel
theorem dW_490 : decode m_law.2.1 490 = .ok (.iaload, 1) := by decide +kernel
theorem dW_491 : decode m_law.2.1 491 = .ok (.invokevirtual 56, 3) := by decide +kernel
theorem dW_494 : decode m_law.2.1 494 = .ok (.aload_n 2, 1) := by decide +kernel
theorem dW_495 : decode m_law.2.1 495 = .ok (.aload_n 0, 1) := by decide +kernel
theorem dW_496 : decode m_law.2.1 496 = .ok (.iload 4, 2) := by decide +kernel
theorem dW_498 : decode m_law.2.1 498 = .ok (.iconst 1, 1) := by decide +kernel
theorem dW_499 : decode m_law.2.1 499 = .ok (.iadd, 1) := by decide +kernel
theorem dW_500 : decode m_law.2.1 500 = .ok (.iaload, 1) := by decide +kernel
theorem dW_501 : decode m_law.2.1 501 = .ok (.invokevirtual 59, 3) := by decide +kernel
theorem dW_504 : decode m_law.2.1 504 = .ok (.if_icmp .eq 1021, 3) := by decide +kernel
theorem dW_507 : decode m_law.2.1 507 = .ok (.iconst 0, 1) := by decide +kernel
theorem dW_508 : decode m_law.2.1 508 = .ok (.ireturn, 1) := by decide +kernel
theorem dW_509 : decode m_law.2.1 509 = .ok (.aload_n 1, 1) := by decide +kernel
theorem dW_510 : decode m_law.2.1 510 = .ok (.aload_n 0, 1) := by decide +kernel
theorem dW_511 : decode m_law.2.1 511 = .ok (.iload 4, 2) := by decide +kernel
theorem dW_513 : decode m_law.2.1 513 = .ok (.iconst 1, 1) := by decide +kernel
theorem dW_514 : decode m_law.2.1 514 = .ok (.iadd, 1) := by decide +kernel
theorem dW_515 : decode m_law.2.1 515 = .ok (.iaload, 1) := by decide +kernel
theorem dW_516 : decode m_law.2.1 516 = .ok (.aload_n 0, 1) := by decide +kernel
theorem dW_517 : decode m_law.2.1 517 = .ok (.iload 4, 2) := by decide +kernel
theorem dW_519 : decode m_law.2.1 519 = .ok (.iconst 2, 1) := by decide +kernel
theorem dW_520 : decode m_law.2.1 520 = .ok (.iadd, 1) := by decide +kernel
theorem dW_521 : decode m_law.2.1 521 = .ok (.iaload, 1) := by decide +kernel
theorem dW_522 : decode m_law.2.1 522 = .ok (.invokevirtual 60, 3) := by decide +kernel
theorem dW_525 : decode m_law.2.1 525 = .ok (.aload_n 2, 1) := by decide +kernel
theorem dW_526 : decode m_law.2.1 526 = .ok (.aload_n 0, 1) := by decide +kernel
theorem dW_527 : decode m_law.2.1 527 = .ok (.iload 4, 2) := by decide +kernel
theorem dW_529 : decode m_law.2.1 529 = .ok (.iconst 1, 1) := by decide +kernel
theorem dW_530 : decode m_law.2.1 530 = .ok (.iadd, 1) := by decide +kernel
theorem dW_531 : decode m_law.2.1 531 = .ok (.iaload, 1) := by decide +kernel
theorem dW_532 : decode m_law.2.1 532 = .ok (.aload_n 0, 1) := by decide +kernel
theorem dW_533 : decode m_law.2.1 533 = .ok (.iload 4, 2) := by decide +kernel
theorem dW_535 : decode m_law.2.1 535 = .ok (.iconst 2, 1) := by decide +kernel
theorem dW_536 : decode m_law.2.1 536 = .ok (.iadd, 1) := by decide +kernel
theorem dW_537 : decode m_law.2.1 537 = .ok (.iaload, 1) := by decide +kernel
theorem dW_538 : decode m_law.2.1 538 = .ok (.invokevirtual 63, 3) := by decide +kernel
theorem dW_541 : decode m_law.2.1 541 = .ok (.if_icmp .eq 984, 3) := by decide +kernel
theorem dW_544 : decode m_law.2.1 544 = .ok (.iconst 0, 1) := by decide +kernel
theorem dW_545 : decode m_law.2.1 545 = .ok (.ireturn, 1) := by decide +kernel
theorem dW_546 : decode m_law.2.1 546 = .ok (.aload_n 1, 1) := by decide +kernel
theorem dW_547 : decode m_law.2.1 547 = .ok (.aload_n 0, 1) := by decide +kernel
theorem dW_548 : decode m_law.2.1 548 = .ok (.iload 4, 2) := by decide +kernel
theorem dW_550 : decode m_law.2.1 550 = .ok (.iconst 1, 1) := by decide +kernel
theorem dW_551 : decode m_law.2.1 551 = .ok (.iadd, 1) := by decide +kernel
theorem dW_552 : decode m_law.2.1 552 = .ok (.iaload, 1) := by decide +kernel
theorem dW_553 : decode m_law.2.1 553 = .ok (.aload_n 0, 1) := by decide +kernel
theorem dW_554 : decode m_law.2.1 554 = .ok (.iload 4, 2) := by decide +kernel
theorem dW_556 : decode m_law.2.1 556 = .ok (.iconst 2, 1) := by decide +kernel
theorem dW_557 : decode m_law.2.1 557 = .ok (.iadd, 1) := by decide +kernel
theorem dW_558 : decode m_law.2.1 558 = .ok (.iaload, 1) := by decide +kernel
theorem dW_559 : decode m_law.2.1 559 = .ok (.aload_n 3, 1) := by decide +kernel
theorem dW_560 : decode m_law.2.1 560 = .ok (.invokestatic 64, 3) := by decide +kernel
theorem dW_563 : decode m_law.2.1 563 = .ok (.istore 5, 2) := by decide +kernel
theorem dW_565 : decode m_law.2.1 565 = .ok (.aload_n 2, 1) := by decide +kernel
theorem dW_566 : decode m_law.2.1 566 = .ok (.aload_n 0, 1) := by decide +kernel
theorem dW_567 : decode m_law.2.1 567 = .ok (.iload 4, 2) := by decide +kernel
theorem dW_569 : decode m_law.2.1 569 = .ok (.iconst 1, 1) := by decide +kernel
theorem dW_570 : decode m_law.2.1 570 = .ok (.iadd, 1) := by decide +kernel
theorem dW_571 : decode m_law.2.1 571 = .ok (.iaload, 1) := by decide +kernel
theorem dW_572 : decode m_law.2.1 572 = .ok (.aload_n 0, 1) := by decide +kernel
theorem dW_573 : decode m_law.2.1 573 = .ok (.iload 4, 2) := by decide +kernel
theorem dW_575 : decode m_law.2.1 575 = .ok (.iconst 2, 1) := by decide +kernel
theorem dW_576 : decode m_law.2.1 576 = .ok (.iadd, 1) := by decide +kernel
theorem dW_577 : decode m_law.2.1 577 = .ok (.iaload, 1) := by decide +kernel
theorem dW_578 : decode m_law.2.1 578 = .ok (.invokevirtual 69, 3) := by decide +kernel
theorem dW_581 : decode m_law.2.1 581 = .ok (.istore 6, 2) := by decide +kernel
theorem dW_583 : decode m_law.2.1 583 = .ok (.aload_n 2, 1) := by decide +kernel
theorem dW_584 : decode m_law.2.1 584 = .ok (.invokevirtual 70, 3) := by decide +kernel
theorem dW_587 : decode m_law.2.1 587 = .ok (.iload 5, 2) := by decide +kernel
theorem dW_589 : decode m_law.2.1 589 = .ok (.if_icmp .eq 5, 3) := by decide +kernel
theorem dW_592 : decode m_law.2.1 592 = .ok (.iconst 0, 1) := by decide +kernel
theorem dW_593 : decode m_law.2.1 593 = .ok (.ireturn, 1) := by decide +kernel
theorem dW_594 : decode m_law.2.1 594 = .ok (.iload 5, 2) := by decide +kernel
theorem dW_596 : decode m_law.2.1 596 = .ok (.ifCond .ne 15, 3) := by decide +kernel
theorem dW_599 : decode m_law.2.1 599 = .ok (.aload_n 3, 1) := by decide +kernel
theorem dW_600 : decode m_law.2.1 600 = .ok (.iconst 0, 1) := by decide +kernel
theorem dW_601 : decode m_law.2.1 601 = .ok (.laload, 1) := by decide +kernel
theorem dW_602 : decode m_law.2.1 602 = .ok (.iload 6, 2) := by decide +kernel
theorem dW_604 : decode m_law.2.1 604 = .ok (.i2l, 1) := by decide +kernel
theorem dW_605 : decode m_law.2.1 605 = .ok (.lcmp, 1) := by decide +kernel
theorem dW_606 : decode m_law.2.1 606 = .ok (.ifCond .eq 5, 3) := by decide +kernel
theorem dW_609 : decode m_law.2.1 609 = .ok (.iconst 0, 1) := by decide +kernel
theorem dW_610 : decode m_law.2.1 610 = .ok (.ireturn, 1) := by decide +kernel
theorem dW_611 : decode m_law.2.1 611 = .ok (.goto 914, 3) := by decide +kernel
theorem dW_614 : decode m_law.2.1 614 = .ok (.aload_n 1, 1) := by decide +kernel
theorem dW_615 : decode m_law.2.1 615 = .ok (.aload_n 0, 1) := by decide +kernel
theorem dW_616 : decode m_law.2.1 616 = .ok (.iload 4, 2) := by decide +kernel
theorem dW_618 : decode m_law.2.1 618 = .ok (.iconst 1, 1) := by decide +kernel
theorem dW_619 : decode m_law.2.1 619 = .ok (.iadd, 1) := by decide +kernel
theorem dW_620 : decode m_law.2.1 620 = .ok (.iaload, 1) := by decide +kernel
theorem dW_621 : decode m_law.2.1 621 = .ok (.invokevirtual 73, 3) := by decide +kernel
theorem dW_624 : decode m_law.2.1 624 = .ok (.aload_n 2, 1) := by decide +kernel
theorem dW_625 : decode m_law.2.1 625 = .ok (.aload_n 0, 1) := by decide +kernel
theorem dW_626 : decode m_law.2.1 626 = .ok (.iload 4, 2) := by decide +kernel
theorem dW_628 : decode m_law.2.1 628 = .ok (.iconst 1, 1) := by decide +kernel
theorem dW_629 : decode m_law.2.1 629 = .ok (.iadd, 1) := by decide +kernel
theorem dW_630 : decode m_law.2.1 630 = .ok (.iaload, 1) := by decide +kernel
theorem dW_631 : decode m_law.2.1 631 = .ok (.invokevirtual 76, 3) := by decide +kernel
theorem dW_634 : decode m_law.2.1 634 = .ok (.if_icmp .eq 891, 3) := by decide +kernel
theorem dW_637 : decode m_law.2.1 637 = .ok (.iconst 0, 1) := by decide +kernel
theorem dW_638 : decode m_law.2.1 638 = .ok (.ireturn, 1) := by decide +kernel
theorem dW_639 : decode m_law.2.1 639 = .ok (.aload_n 1, 1) := by decide +kernel
theorem dW_640 : decode m_law.2.1 640 = .ok (.aload_n 0, 1) := by decide +kernel
theorem dW_641 : decode m_law.2.1 641 = .ok (.iload 4, 2) := by decide +kernel
theorem dW_643 : decode m_law.2.1 643 = .ok (.iconst 1, 1) := by decide +kernel
theorem dW_644 : decode m_law.2.1 644 = .ok (.iadd, 1) := by decide +kernel
theorem dW_645 : decode m_law.2.1 645 = .ok (.iaload, 1) := by decide +kernel
theorem dW_646 : decode m_law.2.1 646 = .ok (.invokevirtual 77, 3) := by decide +kernel
theorem dW_649 : decode m_law.2.1 649 = .ok (.aload_n 2, 1) := by decide +kernel
theorem dW_650 : decode m_law.2.1 650 = .ok (.aload_n 0, 1) := by decide +kernel
theorem dW_651 : decode m_law.2.1 651 = .ok (.iload 4, 2) := by decide +kernel
theorem dW_653 : decode m_law.2.1 653 = .ok (.iconst 1, 1) := by decide +kernel
theorem dW_654 : decode m_law.2.1 654 = .ok (.iadd, 1) := by decide +kernel
theorem dW_655 : decode m_law.2.1 655 = .ok (.iaload, 1) := by decide +kernel
theorem dW_656 : decode m_law.2.1 656 = .ok (.invokevirtual 80, 3) := by decide +kernel
theorem dW_659 : decode m_law.2.1 659 = .ok (.if_icmp .eq 866, 3) := by decide +kernel
theorem dW_662 : decode m_law.2.1 662 = .ok (.iconst 0, 1) := by decide +kernel
theorem dW_663 : decode m_law.2.1 663 = .ok (.ireturn, 1) := by decide +kernel
theorem dW_664 : decode m_law.2.1 664 = .ok (.aload_n 1, 1) := by decide +kernel
theorem dW_665 : decode m_law.2.1 665 = .ok (.invokevirtual 81, 3) := by decide +kernel
theorem dW_668 : decode m_law.2.1 668 = .ok (.aload_n 2, 1) := by decide +kernel
theorem dW_669 : decode m_law.2.1 669 = .ok (.invokevirtual 84, 3) := by decide +kernel
theorem dW_672 : decode m_law.2.1 672 = .ok (.if_icmp .eq 853, 3) := by decide +kernel
theorem dW_675 : decode m_law.2.1 675 = .ok (.iconst 0, 1) := by decide +kernel
theorem dW_676 : decode m_law.2.1 676 = .ok (.ireturn, 1) := by decide +kernel
theorem dW_677 : decode m_law.2.1 677 = .ok (.aload_n 1, 1) := by decide +kernel
theorem dW_678 : decode m_law.2.1 678 = .ok (.aload_n 0, 1) := by decide +kernel
theorem dW_679 : decode m_law.2.1 679 = .ok (.iload 4, 2) := by decide +kernel
theorem dW_681 : decode m_law.2.1 681 = .ok (.iconst 1, 1) := by decide +kernel
theorem dW_682 : decode m_law.2.1 682 = .ok (.iadd, 1) := by decide +kernel
theorem dW_683 : decode m_law.2.1 683 = .ok (.iaload, 1) := by decide +kernel
theorem dW_684 : decode m_law.2.1 684 = .ok (.aload_n 0, 1) := by decide +kernel
theorem dW_685 : decode m_law.2.1 685 = .ok (.iload 4, 2) := by decide +kernel
theorem dW_687 : decode m_law.2.1 687 = .ok (.iconst 2, 1) := by decide +kernel
theorem dW_688 : decode m_law.2.1 688 = .ok (.iadd, 1) := by decide +kernel
theorem dW_689 : decode m_law.2.1 689 = .ok (.iaload, 1) := by decide +kernel
theorem dW_690 : decode m_law.2.1 690 = .ok (.invokevirtual 85, 3) := by decide +kernel
theorem dW_693 : decode m_law.2.1 693 = .ok (.aload_n 2, 1) := by decide +kernel
theorem dW_694 : decode m_law.2.1 694 = .ok (.aload_n 0, 1) := by decide +kernel
theorem dW_695 : decode m_law.2.1 695 = .ok (.iload 4, 2) := by decide +kernel
theorem dW_697 : decode m_law.2.1 697 = .ok (.iconst 1, 1) := by decide +kernel
theorem dW_698 : decode m_law.2.1 698 = .ok (.iadd, 1) := by decide +kernel
theorem dW_699 : decode m_law.2.1 699 = .ok (.iaload, 1) := by decide +kernel
theorem dW_700 : decode m_law.2.1 700 = .ok (.aload_n 0, 1) := by decide +kernel
theorem dW_701 : decode m_law.2.1 701 = .ok (.iload 4, 2) := by decide +kernel
theorem dW_703 : decode m_law.2.1 703 = .ok (.iconst 2, 1) := by decide +kernel
theorem dW_704 : decode m_law.2.1 704 = .ok (.iadd, 1) := by decide +kernel
theorem dW_705 : decode m_law.2.1 705 = .ok (.iaload, 1) := by decide +kernel
theorem dW_706 : decode m_law.2.1 706 = .ok (.invokevirtual 88, 3) := by decide +kernel
theorem dW_709 : decode m_law.2.1 709 = .ok (.if_icmp .eq 816, 3) := by decide +kernel
theorem dW_712 : decode m_law.2.1 712 = .ok (.iconst 0, 1) := by decide +kernel
theorem dW_713 : decode m_law.2.1 713 = .ok (.ireturn, 1) := by decide +kernel
theorem dW_714 : decode m_law.2.1 714 = .ok (.aload_n 1, 1) := by decide +kernel
theorem dW_715 : decode m_law.2.1 715 = .ok (.aload_n 0, 1) := by decide +kernel
theorem dW_716 : decode m_law.2.1 716 = .ok (.iload 4, 2) := by decide +kernel
theorem dW_718 : decode m_law.2.1 718 = .ok (.iconst 1, 1) := by decide +kernel
theorem dW_719 : decode m_law.2.1 719 = .ok (.iadd, 1) := by decide +kernel
theorem dW_720 : decode m_law.2.1 720 = .ok (.iaload, 1) := by decide +kernel
theorem dW_721 : decode m_law.2.1 721 = .ok (.invokevirtual 89, 3) := by decide +kernel
theorem dW_724 : decode m_law.2.1 724 = .ok (.aload_n 2, 1) := by decide +kernel
theorem dW_725 : decode m_law.2.1 725 = .ok (.aload_n 0, 1) := by decide +kernel
theorem dW_726 : decode m_law.2.1 726 = .ok (.iload 4, 2) := by decide +kernel
theorem dW_728 : decode m_law.2.1 728 = .ok (.iconst 1, 1) := by decide +kernel
theorem dW_729 : decode m_law.2.1 729 = .ok (.iadd, 1) := by decide +kernel
theorem dW_730 : decode m_law.2.1 730 = .ok (.iaload, 1) := by decide +kernel
theorem dW_731 : decode m_law.2.1 731 = .ok (.invokevirtual 92, 3) := by decide +kernel
theorem dW_734 : decode m_law.2.1 734 = .ok (.if_icmp .eq 791, 3) := by decide +kernel
theorem dW_737 : decode m_law.2.1 737 = .ok (.iconst 0, 1) := by decide +kernel
theorem dW_738 : decode m_law.2.1 738 = .ok (.ireturn, 1) := by decide +kernel
theorem dW_739 : decode m_law.2.1 739 = .ok (.aload_n 1, 1) := by decide +kernel
theorem dW_740 : decode m_law.2.1 740 = .ok (.aload_n 0, 1) := by decide +kernel
theorem dW_741 : decode m_law.2.1 741 = .ok (.iload 4, 2) := by decide +kernel
theorem dW_743 : decode m_law.2.1 743 = .ok (.iconst 1, 1) := by decide +kernel
theorem dW_744 : decode m_law.2.1 744 = .ok (.iadd, 1) := by decide +kernel
theorem dW_745 : decode m_law.2.1 745 = .ok (.iaload, 1) := by decide +kernel
theorem dW_746 : decode m_law.2.1 746 = .ok (.aload_n 0, 1) := by decide +kernel
theorem dW_747 : decode m_law.2.1 747 = .ok (.iload 4, 2) := by decide +kernel
theorem dW_749 : decode m_law.2.1 749 = .ok (.iconst 2, 1) := by decide +kernel
theorem dW_750 : decode m_law.2.1 750 = .ok (.iadd, 1) := by decide +kernel
theorem dW_751 : decode m_law.2.1 751 = .ok (.iaload, 1) := by decide +kernel
theorem dW_752 : decode m_law.2.1 752 = .ok (.invokevirtual 93, 3) := by decide +kernel
theorem dW_755 : decode m_law.2.1 755 = .ok (.aload_n 2, 1) := by decide +kernel
theorem dW_756 : decode m_law.2.1 756 = .ok (.aload_n 0, 1) := by decide +kernel
theorem dW_757 : decode m_law.2.1 757 = .ok (.iload 4, 2) := by decide +kernel
theorem dW_759 : decode m_law.2.1 759 = .ok (.iconst 1, 1) := by decide +kernel
theorem dW_760 : decode m_law.2.1 760 = .ok (.iadd, 1) := by decide +kernel
theorem dW_761 : decode m_law.2.1 761 = .ok (.iaload, 1) := by decide +kernel
theorem dW_762 : decode m_law.2.1 762 = .ok (.aload_n 0, 1) := by decide +kernel
theorem dW_763 : decode m_law.2.1 763 = .ok (.iload 4, 2) := by decide +kernel
theorem dW_765 : decode m_law.2.1 765 = .ok (.iconst 2, 1) := by decide +kernel
theorem dW_766 : decode m_law.2.1 766 = .ok (.iadd, 1) := by decide +kernel
theorem dW_767 : decode m_law.2.1 767 = .ok (.iaload, 1) := by decide +kernel
theorem dW_768 : decode m_law.2.1 768 = .ok (.invokevirtual 96, 3) := by decide +kernel
theorem dW_771 : decode m_law.2.1 771 = .ok (.if_icmp .eq 754, 3) := by decide +kernel
theorem dW_774 : decode m_law.2.1 774 = .ok (.iconst 0, 1) := by decide +kernel
theorem dW_775 : decode m_law.2.1 775 = .ok (.ireturn, 1) := by decide +kernel
theorem dW_776 : decode m_law.2.1 776 = .ok (.aload_n 1, 1) := by decide +kernel
theorem dW_777 : decode m_law.2.1 777 = .ok (.aload_n 0, 1) := by decide +kernel
theorem dW_778 : decode m_law.2.1 778 = .ok (.iload 4, 2) := by decide +kernel
theorem dW_780 : decode m_law.2.1 780 = .ok (.iconst 1, 1) := by decide +kernel
theorem dW_781 : decode m_law.2.1 781 = .ok (.iadd, 1) := by decide +kernel
theorem dW_782 : decode m_law.2.1 782 = .ok (.iaload, 1) := by decide +kernel
theorem dW_783 : decode m_law.2.1 783 = .ok (.invokevirtual 97, 3) := by decide +kernel
theorem dW_786 : decode m_law.2.1 786 = .ok (.aload_n 2, 1) := by decide +kernel
theorem dW_787 : decode m_law.2.1 787 = .ok (.aload_n 0, 1) := by decide +kernel
theorem dW_788 : decode m_law.2.1 788 = .ok (.iload 4, 2) := by decide +kernel
theorem dW_790 : decode m_law.2.1 790 = .ok (.iconst 1, 1) := by decide +kernel
theorem dW_791 : decode m_law.2.1 791 = .ok (.iadd, 1) := by decide +kernel
theorem dW_792 : decode m_law.2.1 792 = .ok (.iaload, 1) := by decide +kernel
theorem dW_793 : decode m_law.2.1 793 = .ok (.invokevirtual 100, 3) := by decide +kernel
theorem dW_796 : decode m_law.2.1 796 = .ok (.if_icmp .eq 729, 3) := by decide +kernel
theorem dW_799 : decode m_law.2.1 799 = .ok (.iconst 0, 1) := by decide +kernel
theorem dW_800 : decode m_law.2.1 800 = .ok (.ireturn, 1) := by decide +kernel
theorem dW_801 : decode m_law.2.1 801 = .ok (.aload_n 1, 1) := by decide +kernel
theorem dW_802 : decode m_law.2.1 802 = .ok (.aload_n 0, 1) := by decide +kernel
theorem dW_803 : decode m_law.2.1 803 = .ok (.iload 4, 2) := by decide +kernel
theorem dW_805 : decode m_law.2.1 805 = .ok (.iconst 1, 1) := by decide +kernel
theorem dW_806 : decode m_law.2.1 806 = .ok (.iadd, 1) := by decide +kernel
theorem dW_807 : decode m_law.2.1 807 = .ok (.iaload, 1) := by decide +kernel
theorem dW_808 : decode m_law.2.1 808 = .ok (.invokevirtual 101, 3) := by decide +kernel
theorem dW_811 : decode m_law.2.1 811 = .ok (.aload_n 2, 1) := by decide +kernel
theorem dW_812 : decode m_law.2.1 812 = .ok (.aload_n 0, 1) := by decide +kernel
theorem dW_813 : decode m_law.2.1 813 = .ok (.iload 4, 2) := by decide +kernel
theorem dW_815 : decode m_law.2.1 815 = .ok (.iconst 1, 1) := by decide +kernel
theorem dW_816 : decode m_law.2.1 816 = .ok (.iadd, 1) := by decide +kernel
theorem dW_817 : decode m_law.2.1 817 = .ok (.iaload, 1) := by decide +kernel
theorem dW_818 : decode m_law.2.1 818 = .ok (.invokevirtual 104, 3) := by decide +kernel
theorem dW_821 : decode m_law.2.1 821 = .ok (.if_icmp .eq 704, 3) := by decide +kernel
theorem dW_824 : decode m_law.2.1 824 = .ok (.iconst 0, 1) := by decide +kernel
theorem dW_825 : decode m_law.2.1 825 = .ok (.ireturn, 1) := by decide +kernel
theorem dW_826 : decode m_law.2.1 826 = .ok (.aload_n 1, 1) := by decide +kernel
theorem dW_827 : decode m_law.2.1 827 = .ok (.aload_n 0, 1) := by decide +kernel
theorem dW_828 : decode m_law.2.1 828 = .ok (.iload 4, 2) := by decide +kernel
theorem dW_830 : decode m_law.2.1 830 = .ok (.iconst 1, 1) := by decide +kernel
theorem dW_831 : decode m_law.2.1 831 = .ok (.iadd, 1) := by decide +kernel
theorem dW_832 : decode m_law.2.1 832 = .ok (.iaload, 1) := by decide +kernel
theorem dW_833 : decode m_law.2.1 833 = .ok (.aload_n 0, 1) := by decide +kernel
theorem dW_834 : decode m_law.2.1 834 = .ok (.iload 4, 2) := by decide +kernel
theorem dW_836 : decode m_law.2.1 836 = .ok (.iconst 2, 1) := by decide +kernel
theorem dW_837 : decode m_law.2.1 837 = .ok (.iadd, 1) := by decide +kernel
theorem dW_838 : decode m_law.2.1 838 = .ok (.iaload, 1) := by decide +kernel
theorem dW_839 : decode m_law.2.1 839 = .ok (.invokevirtual 105, 3) := by decide +kernel
theorem dW_842 : decode m_law.2.1 842 = .ok (.aload_n 2, 1) := by decide +kernel
theorem dW_843 : decode m_law.2.1 843 = .ok (.aload_n 0, 1) := by decide +kernel
theorem dW_844 : decode m_law.2.1 844 = .ok (.iload 4, 2) := by decide +kernel
theorem dW_846 : decode m_law.2.1 846 = .ok (.iconst 1, 1) := by decide +kernel
theorem dW_847 : decode m_law.2.1 847 = .ok (.iadd, 1) := by decide +kernel
theorem dW_848 : decode m_law.2.1 848 = .ok (.iaload, 1) := by decide +kernel
theorem dW_849 : decode m_law.2.1 849 = .ok (.aload_n 0, 1) := by decide +kernel
theorem dW_850 : decode m_law.2.1 850 = .ok (.iload 4, 2) := by decide +kernel
theorem dW_852 : decode m_law.2.1 852 = .ok (.iconst 2, 1) := by decide +kernel
theorem dW_853 : decode m_law.2.1 853 = .ok (.iadd, 1) := by decide +kernel
theorem dW_854 : decode m_law.2.1 854 = .ok (.iaload, 1) := by decide +kernel
theorem dW_855 : decode m_law.2.1 855 = .ok (.invokevirtual 108, 3) := by decide +kernel
theorem dW_858 : decode m_law.2.1 858 = .ok (.if_icmp .eq 667, 3) := by decide +kernel
theorem dW_861 : decode m_law.2.1 861 = .ok (.iconst 0, 1) := by decide +kernel
theorem dW_862 : decode m_law.2.1 862 = .ok (.ireturn, 1) := by decide +kernel
theorem dW_863 : decode m_law.2.1 863 = .ok (.aload_n 1, 1) := by decide +kernel
theorem dW_864 : decode m_law.2.1 864 = .ok (.invokevirtual 109, 3) := by decide +kernel
theorem dW_867 : decode m_law.2.1 867 = .ok (.aload_n 2, 1) := by decide +kernel
theorem dW_868 : decode m_law.2.1 868 = .ok (.invokevirtual 112, 3) := by decide +kernel
theorem dW_871 : decode m_law.2.1 871 = .ok (.if_icmp .eq 654, 3) := by decide +kernel
theorem dW_874 : decode m_law.2.1 874 = .ok (.iconst 0, 1) := by decide +kernel
theorem dW_875 : decode m_law.2.1 875 = .ok (.ireturn, 1) := by decide +kernel
theorem dW_876 : decode m_law.2.1 876 = .ok (.aload_n 1, 1) := by decide +kernel
theorem dW_877 : decode m_law.2.1 877 = .ok (.aload_n 0, 1) := by decide +kernel
theorem dW_878 : decode m_law.2.1 878 = .ok (.iload 4, 2) := by decide +kernel
theorem dW_880 : decode m_law.2.1 880 = .ok (.iconst 1, 1) := by decide +kernel
theorem dW_881 : decode m_law.2.1 881 = .ok (.iadd, 1) := by decide +kernel
theorem dW_882 : decode m_law.2.1 882 = .ok (.iaload, 1) := by decide +kernel
theorem dW_883 : decode m_law.2.1 883 = .ok (.invokevirtual 113, 3) := by decide +kernel
theorem dW_886 : decode m_law.2.1 886 = .ok (.aload_n 2, 1) := by decide +kernel
theorem dW_887 : decode m_law.2.1 887 = .ok (.aload_n 0, 1) := by decide +kernel
theorem dW_888 : decode m_law.2.1 888 = .ok (.iload 4, 2) := by decide +kernel
theorem dW_890 : decode m_law.2.1 890 = .ok (.iconst 1, 1) := by decide +kernel
theorem dW_891 : decode m_law.2.1 891 = .ok (.iadd, 1) := by decide +kernel
theorem dW_892 : decode m_law.2.1 892 = .ok (.iaload, 1) := by decide +kernel
theorem dW_893 : decode m_law.2.1 893 = .ok (.invokevirtual 116, 3) := by decide +kernel
theorem dW_896 : decode m_law.2.1 896 = .ok (.if_icmp .eq 629, 3) := by decide +kernel
theorem dW_899 : decode m_law.2.1 899 = .ok (.iconst 0, 1) := by decide +kernel
theorem dW_900 : decode m_law.2.1 900 = .ok (.ireturn, 1) := by decide +kernel
theorem dW_901 : decode m_law.2.1 901 = .ok (.aload_n 1, 1) := by decide +kernel
theorem dW_902 : decode m_law.2.1 902 = .ok (.aload_n 0, 1) := by decide +kernel
theorem dW_903 : decode m_law.2.1 903 = .ok (.iload 4, 2) := by decide +kernel
theorem dW_905 : decode m_law.2.1 905 = .ok (.iconst 1, 1) := by decide +kernel
theorem dW_906 : decode m_law.2.1 906 = .ok (.iadd, 1) := by decide +kernel
theorem dW_907 : decode m_law.2.1 907 = .ok (.iaload, 1) := by decide +kernel
theorem dW_908 : decode m_law.2.1 908 = .ok (.invokevirtual 117, 3) := by decide +kernel
theorem dW_911 : decode m_law.2.1 911 = .ok (.aload_n 2, 1) := by decide +kernel
theorem dW_912 : decode m_law.2.1 912 = .ok (.aload_n 0, 1) := by decide +kernel
theorem dW_913 : decode m_law.2.1 913 = .ok (.iload 4, 2) := by decide +kernel
theorem dW_915 : decode m_law.2.1 915 = .ok (.iconst 1, 1) := by decide +kernel
theorem dW_916 : decode m_law.2.1 916 = .ok (.iadd, 1) := by decide +kernel
theorem dW_917 : decode m_law.2.1 917 = .ok (.iaload, 1) := by decide +kernel
theorem dW_918 : decode m_law.2.1 918 = .ok (.invokevirtual 121, 3) := by decide +kernel
theorem dW_921 : decode m_law.2.1 921 = .ok (.lcmp, 1) := by decide +kernel
theorem dW_922 : decode m_law.2.1 922 = .ok (.ifCond .eq 603, 3) := by decide +kernel
theorem dW_925 : decode m_law.2.1 925 = .ok (.iconst 0, 1) := by decide +kernel
theorem dW_926 : decode m_law.2.1 926 = .ok (.ireturn, 1) := by decide +kernel
theorem dW_927 : decode m_law.2.1 927 = .ok (.aload_n 1, 1) := by decide +kernel
theorem dW_928 : decode m_law.2.1 928 = .ok (.aload_n 0, 1) := by decide +kernel
theorem dW_929 : decode m_law.2.1 929 = .ok (.iload 4, 2) := by decide +kernel
theorem dW_931 : decode m_law.2.1 931 = .ok (.iconst 1, 1) := by decide +kernel
theorem dW_932 : decode m_law.2.1 932 = .ok (.iadd, 1) := by decide +kernel
theorem dW_933 : decode m_law.2.1 933 = .ok (.iaload, 1) := by decide +kernel
theorem dW_934 : decode m_law.2.1 934 = .ok (.aload_n 0, 1) := by decide +kernel
theorem dW_935 : decode m_law.2.1 935 = .ok (.iload 4, 2) := by decide +kernel
theorem dW_937 : decode m_law.2.1 937 = .ok (.iconst 2, 1) := by decide +kernel
theorem dW_938 : decode m_law.2.1 938 = .ok (.iadd, 1) := by decide +kernel
theorem dW_939 : decode m_law.2.1 939 = .ok (.iaload, 1) := by decide +kernel
theorem dW_940 : decode m_law.2.1 940 = .ok (.invokevirtual 122, 3) := by decide +kernel
theorem dW_943 : decode m_law.2.1 943 = .ok (.aload_n 2, 1) := by decide +kernel
theorem dW_944 : decode m_law.2.1 944 = .ok (.aload_n 0, 1) := by decide +kernel
theorem dW_945 : decode m_law.2.1 945 = .ok (.iload 4, 2) := by decide +kernel
theorem dW_947 : decode m_law.2.1 947 = .ok (.iconst 1, 1) := by decide +kernel
theorem dW_948 : decode m_law.2.1 948 = .ok (.iadd, 1) := by decide +kernel
theorem dW_949 : decode m_law.2.1 949 = .ok (.iaload, 1) := by decide +kernel
theorem dW_950 : decode m_law.2.1 950 = .ok (.aload_n 0, 1) := by decide +kernel
theorem dW_951 : decode m_law.2.1 951 = .ok (.iload 4, 2) := by decide +kernel
theorem dW_953 : decode m_law.2.1 953 = .ok (.iconst 2, 1) := by decide +kernel
theorem dW_954 : decode m_law.2.1 954 = .ok (.iadd, 1) := by decide +kernel
theorem dW_955 : decode m_law.2.1 955 = .ok (.iaload, 1) := by decide +kernel
theorem dW_956 : decode m_law.2.1 956 = .ok (.invokevirtual 125, 3) := by decide +kernel
theorem dW_959 : decode m_law.2.1 959 = .ok (.if_icmp .eq 566, 3) := by decide +kernel
theorem dW_962 : decode m_law.2.1 962 = .ok (.iconst 0, 1) := by decide +kernel
theorem dW_963 : decode m_law.2.1 963 = .ok (.ireturn, 1) := by decide +kernel
theorem dW_964 : decode m_law.2.1 964 = .ok (.aload_n 1, 1) := by decide +kernel
theorem dW_965 : decode m_law.2.1 965 = .ok (.aload_n 0, 1) := by decide +kernel
theorem dW_966 : decode m_law.2.1 966 = .ok (.iload 4, 2) := by decide +kernel
theorem dW_968 : decode m_law.2.1 968 = .ok (.iconst 1, 1) := by decide +kernel
theorem dW_969 : decode m_law.2.1 969 = .ok (.iadd, 1) := by decide +kernel
theorem dW_970 : decode m_law.2.1 970 = .ok (.iaload, 1) := by decide +kernel
theorem dW_971 : decode m_law.2.1 971 = .ok (.invokevirtual 126, 3) := by decide +kernel
theorem dW_974 : decode m_law.2.1 974 = .ok (.aload_n 2, 1) := by decide +kernel
theorem dW_975 : decode m_law.2.1 975 = .ok (.aload_n 0, 1) := by decide +kernel
theorem dW_976 : decode m_law.2.1 976 = .ok (.iload 4, 2) := by decide +kernel
theorem dW_978 : decode m_law.2.1 978 = .ok (.iconst 1, 1) := by decide +kernel
theorem dW_979 : decode m_law.2.1 979 = .ok (.iadd, 1) := by decide +kernel
theorem dW_980 : decode m_law.2.1 980 = .ok (.iaload, 1) := by decide +kernel
theorem dW_981 : decode m_law.2.1 981 = .ok (.invokevirtual 129, 3) := by decide +kernel
theorem dW_984 : decode m_law.2.1 984 = .ok (.if_icmp .eq 541, 3) := by decide +kernel
theorem dW_987 : decode m_law.2.1 987 = .ok (.iconst 0, 1) := by decide +kernel
theorem dW_988 : decode m_law.2.1 988 = .ok (.ireturn, 1) := by decide +kernel
theorem dW_989 : decode m_law.2.1 989 = .ok (.aload_n 1, 1) := by decide +kernel
theorem dW_990 : decode m_law.2.1 990 = .ok (.aload_n 0, 1) := by decide +kernel
theorem dW_991 : decode m_law.2.1 991 = .ok (.iload 4, 2) := by decide +kernel
theorem dW_993 : decode m_law.2.1 993 = .ok (.iconst 1, 1) := by decide +kernel
theorem dW_994 : decode m_law.2.1 994 = .ok (.iadd, 1) := by decide +kernel
theorem dW_995 : decode m_law.2.1 995 = .ok (.iaload, 1) := by decide +kernel
theorem dW_996 : decode m_law.2.1 996 = .ok (.invokevirtual 130, 3) := by decide +kernel
theorem dW_999 : decode m_law.2.1 999 = .ok (.aload_n 2, 1) := by decide +kernel
theorem dW_1000 : decode m_law.2.1 1000 = .ok (.aload_n 0, 1) := by decide +kernel
theorem dW_1001 : decode m_law.2.1 1001 = .ok (.iload 4, 2) := by decide +kernel
theorem dW_1003 : decode m_law.2.1 1003 = .ok (.iconst 1, 1) := by decide +kernel
theorem dW_1004 : decode m_law.2.1 1004 = .ok (.iadd, 1) := by decide +kernel
theorem dW_1005 : decode m_law.2.1 1005 = .ok (.iaload, 1) := by decide +kernel
theorem dW_1006 : decode m_law.2.1 1006 = .ok (.invokevirtual 133, 3) := by decide +kernel
theorem dW_1009 : decode m_law.2.1 1009 = .ok (.if_icmp .eq 516, 3) := by decide +kernel
theorem dW_1012 : decode m_law.2.1 1012 = .ok (.iconst 0, 1) := by decide +kernel
theorem dW_1013 : decode m_law.2.1 1013 = .ok (.ireturn, 1) := by decide +kernel
theorem dW_1014 : decode m_law.2.1 1014 = .ok (.aload_n 1, 1) := by decide +kernel
theorem dW_1015 : decode m_law.2.1 1015 = .ok (.aload_n 0, 1) := by decide +kernel
theorem dW_1016 : decode m_law.2.1 1016 = .ok (.iload 4, 2) := by decide +kernel
theorem dW_1018 : decode m_law.2.1 1018 = .ok (.iconst 1, 1) := by decide +kernel
theorem dW_1019 : decode m_law.2.1 1019 = .ok (.iadd, 1) := by decide +kernel
theorem dW_1020 : decode m_law.2.1 1020 = .ok (.iaload, 1) := by decide +kernel
theorem dW_1021 : decode m_law.2.1 1021 = .ok (.invokevirtual 134, 3) := by decide +kernel
theorem dW_1024 : decode m_law.2.1 1024 = .ok (.aload_n 2, 1) := by decide +kernel
theorem dW_1025 : decode m_law.2.1 1025 = .ok (.aload_n 0, 1) := by decide +kernel
theorem dW_1026 : decode m_law.2.1 1026 = .ok (.iload 4, 2) := by decide +kernel
theorem dW_1028 : decode m_law.2.1 1028 = .ok (.iconst 1, 1) := by decide +kernel
theorem dW_1029 : decode m_law.2.1 1029 = .ok (.iadd, 1) := by decide +kernel
theorem dW_1030 : decode m_law.2.1 1030 = .ok (.iaload, 1) := by decide +kernel
theorem dW_1031 : decode m_law.2.1 1031 = .ok (.invokevirtual 137, 3) := by decide +kernel
theorem dW_1034 : decode m_law.2.1 1034 = .ok (.if_icmp .eq 491, 3) := by decide +kernel
theorem dW_1037 : decode m_law.2.1 1037 = .ok (.iconst 0, 1) := by decide +kernel
theorem dW_1038 : decode m_law.2.1 1038 = .ok (.ireturn, 1) := by decide +kernel
theorem dW_1039 : decode m_law.2.1 1039 = .ok (.aload_n 1, 1) := by decide +kernel
theorem dW_1040 : decode m_law.2.1 1040 = .ok (.aload_n 0, 1) := by decide +kernel
theorem dW_1041 : decode m_law.2.1 1041 = .ok (.iload 4, 2) := by decide +kernel
theorem dW_1043 : decode m_law.2.1 1043 = .ok (.iconst 1, 1) := by decide +kernel
theorem dW_1044 : decode m_law.2.1 1044 = .ok (.iadd, 1) := by decide +kernel
theorem dW_1045 : decode m_law.2.1 1045 = .ok (.iaload, 1) := by decide +kernel
theorem dW_1046 : decode m_law.2.1 1046 = .ok (.invokevirtual 138, 3) := by decide +kernel
theorem dW_1049 : decode m_law.2.1 1049 = .ok (.aload_n 2, 1) := by decide +kernel
theorem dW_1050 : decode m_law.2.1 1050 = .ok (.aload_n 0, 1) := by decide +kernel
theorem dW_1051 : decode m_law.2.1 1051 = .ok (.iload 4, 2) := by decide +kernel
theorem dW_1053 : decode m_law.2.1 1053 = .ok (.iconst 1, 1) := by decide +kernel
theorem dW_1054 : decode m_law.2.1 1054 = .ok (.iadd, 1) := by decide +kernel
theorem dW_1055 : decode m_law.2.1 1055 = .ok (.iaload, 1) := by decide +kernel
theorem dW_1056 : decode m_law.2.1 1056 = .ok (.invokevirtual 141, 3) := by decide +kernel
theorem dW_1059 : decode m_law.2.1 1059 = .ok (.if_icmp .eq 466, 3) := by decide +kernel
theorem dW_1062 : decode m_law.2.1 1062 = .ok (.iconst 0, 1) := by decide +kernel
theorem dW_1063 : decode m_law.2.1 1063 = .ok (.ireturn, 1) := by decide +kernel
theorem dW_1064 : decode m_law.2.1 1064 = .ok (.aload_n 1, 1) := by decide +kernel
theorem dW_1065 : decode m_law.2.1 1065 = .ok (.aload_n 0, 1) := by decide +kernel
theorem dW_1066 : decode m_law.2.1 1066 = .ok (.iload 4, 2) := by decide +kernel
theorem dW_1068 : decode m_law.2.1 1068 = .ok (.iconst 1, 1) := by decide +kernel
theorem dW_1069 : decode m_law.2.1 1069 = .ok (.iadd, 1) := by decide +kernel
theorem dW_1070 : decode m_law.2.1 1070 = .ok (.iaload, 1) := by decide +kernel
theorem dW_1071 : decode m_law.2.1 1071 = .ok (.invokevirtual 142, 3) := by decide +kernel
theorem dW_1074 : decode m_law.2.1 1074 = .ok (.aload_n 2, 1) := by decide +kernel
theorem dW_1075 : decode m_law.2.1 1075 = .ok (.aload_n 0, 1) := by decide +kernel
theorem dW_1076 : decode m_law.2.1 1076 = .ok (.iload 4, 2) := by decide +kernel
theorem dW_1078 : decode m_law.2.1 1078 = .ok (.iconst 1, 1) := by decide +kernel
theorem dW_1079 : decode m_law.2.1 1079 = .ok (.iadd, 1) := by decide +kernel
theorem dW_1080 : decode m_law.2.1 1080 = .ok (.iaload, 1) := by decide +kernel
theorem dW_1081 : decode m_law.2.1 1081 = .ok (.invokevirtual 145, 3) := by decide +kernel
theorem dW_1084 : decode m_law.2.1 1084 = .ok (.if_icmp .eq 441, 3) := by decide +kernel
theorem dW_1087 : decode m_law.2.1 1087 = .ok (.iconst 0, 1) := by decide +kernel
theorem dW_1088 : decode m_law.2.1 1088 = .ok (.ireturn, 1) := by decide +kernel
theorem dW_1089 : decode m_law.2.1 1089 = .ok (.aload_n 1, 1) := by decide +kernel
theorem dW_1090 : decode m_law.2.1 1090 = .ok (.aload_n 0, 1) := by decide +kernel
theorem dW_1091 : decode m_law.2.1 1091 = .ok (.iload 4, 2) := by decide +kernel
theorem dW_1093 : decode m_law.2.1 1093 = .ok (.iconst 1, 1) := by decide +kernel
theorem dW_1094 : decode m_law.2.1 1094 = .ok (.iadd, 1) := by decide +kernel
theorem dW_1095 : decode m_law.2.1 1095 = .ok (.iaload, 1) := by decide +kernel
theorem dW_1096 : decode m_law.2.1 1096 = .ok (.aload_n 0, 1) := by decide +kernel
theorem dW_1097 : decode m_law.2.1 1097 = .ok (.iload 4, 2) := by decide +kernel
theorem dW_1099 : decode m_law.2.1 1099 = .ok (.iconst 2, 1) := by decide +kernel
theorem dW_1100 : decode m_law.2.1 1100 = .ok (.iadd, 1) := by decide +kernel
theorem dW_1101 : decode m_law.2.1 1101 = .ok (.iaload, 1) := by decide +kernel
theorem dW_1102 : decode m_law.2.1 1102 = .ok (.invokevirtual 146, 3) := by decide +kernel
theorem dW_1105 : decode m_law.2.1 1105 = .ok (.aload_n 2, 1) := by decide +kernel
theorem dW_1106 : decode m_law.2.1 1106 = .ok (.aload_n 0, 1) := by decide +kernel
theorem dW_1107 : decode m_law.2.1 1107 = .ok (.iload 4, 2) := by decide +kernel
theorem dW_1109 : decode m_law.2.1 1109 = .ok (.iconst 1, 1) := by decide +kernel
theorem dW_1110 : decode m_law.2.1 1110 = .ok (.iadd, 1) := by decide +kernel
theorem dW_1111 : decode m_law.2.1 1111 = .ok (.iaload, 1) := by decide +kernel
theorem dW_1112 : decode m_law.2.1 1112 = .ok (.aload_n 0, 1) := by decide +kernel
theorem dW_1113 : decode m_law.2.1 1113 = .ok (.iload 4, 2) := by decide +kernel
theorem dW_1115 : decode m_law.2.1 1115 = .ok (.iconst 2, 1) := by decide +kernel
theorem dW_1116 : decode m_law.2.1 1116 = .ok (.iadd, 1) := by decide +kernel
theorem dW_1117 : decode m_law.2.1 1117 = .ok (.iaload, 1) := by decide +kernel
theorem dW_1118 : decode m_law.2.1 1118 = .ok (.invokevirtual 149, 3) := by decide +kernel
theorem dW_1121 : decode m_law.2.1 1121 = .ok (.if_icmp .eq 404, 3) := by decide +kernel
theorem dW_1124 : decode m_law.2.1 1124 = .ok (.iconst 0, 1) := by decide +kernel
theorem dW_1125 : decode m_law.2.1 1125 = .ok (.ireturn, 1) := by decide +kernel
theorem dW_1126 : decode m_law.2.1 1126 = .ok (.aload_n 1, 1) := by decide +kernel
theorem dW_1127 : decode m_law.2.1 1127 = .ok (.aload_n 0, 1) := by decide +kernel
theorem dW_1128 : decode m_law.2.1 1128 = .ok (.iload 4, 2) := by decide +kernel
theorem dW_1130 : decode m_law.2.1 1130 = .ok (.iconst 1, 1) := by decide +kernel
theorem dW_1131 : decode m_law.2.1 1131 = .ok (.iadd, 1) := by decide +kernel
theorem dW_1132 : decode m_law.2.1 1132 = .ok (.iaload, 1) := by decide +kernel
theorem dW_1133 : decode m_law.2.1 1133 = .ok (.invokevirtual 150, 3) := by decide +kernel
theorem dW_1136 : decode m_law.2.1 1136 = .ok (.aload_n 2, 1) := by decide +kernel
theorem dW_1137 : decode m_law.2.1 1137 = .ok (.aload_n 0, 1) := by decide +kernel
theorem dW_1138 : decode m_law.2.1 1138 = .ok (.iload 4, 2) := by decide +kernel
theorem dW_1140 : decode m_law.2.1 1140 = .ok (.iconst 1, 1) := by decide +kernel
theorem dW_1141 : decode m_law.2.1 1141 = .ok (.iadd, 1) := by decide +kernel
theorem dW_1142 : decode m_law.2.1 1142 = .ok (.iaload, 1) := by decide +kernel
theorem dW_1143 : decode m_law.2.1 1143 = .ok (.invokevirtual 153, 3) := by decide +kernel
theorem dW_1146 : decode m_law.2.1 1146 = .ok (.if_icmp .eq 379, 3) := by decide +kernel
theorem dW_1149 : decode m_law.2.1 1149 = .ok (.iconst 0, 1) := by decide +kernel
theorem dW_1150 : decode m_law.2.1 1150 = .ok (.ireturn, 1) := by decide +kernel
theorem dW_1151 : decode m_law.2.1 1151 = .ok (.aload_n 1, 1) := by decide +kernel
theorem dW_1152 : decode m_law.2.1 1152 = .ok (.aload_n 0, 1) := by decide +kernel
theorem dW_1153 : decode m_law.2.1 1153 = .ok (.iload 4, 2) := by decide +kernel
theorem dW_1155 : decode m_law.2.1 1155 = .ok (.iconst 1, 1) := by decide +kernel
theorem dW_1156 : decode m_law.2.1 1156 = .ok (.iadd, 1) := by decide +kernel
theorem dW_1157 : decode m_law.2.1 1157 = .ok (.iaload, 1) := by decide +kernel
theorem dW_1158 : decode m_law.2.1 1158 = .ok (.aload_n 0, 1) := by decide +kernel
theorem dW_1159 : decode m_law.2.1 1159 = .ok (.iload 4, 2) := by decide +kernel
theorem dW_1161 : decode m_law.2.1 1161 = .ok (.iconst 2, 1) := by decide +kernel
theorem dW_1162 : decode m_law.2.1 1162 = .ok (.iadd, 1) := by decide +kernel
theorem dW_1163 : decode m_law.2.1 1163 = .ok (.iaload, 1) := by decide +kernel
theorem dW_1164 : decode m_law.2.1 1164 = .ok (.invokevirtual 154, 3) := by decide +kernel
theorem dW_1167 : decode m_law.2.1 1167 = .ok (.aload_n 2, 1) := by decide +kernel
theorem dW_1168 : decode m_law.2.1 1168 = .ok (.aload_n 0, 1) := by decide +kernel
theorem dW_1169 : decode m_law.2.1 1169 = .ok (.iload 4, 2) := by decide +kernel
theorem dW_1171 : decode m_law.2.1 1171 = .ok (.iconst 1, 1) := by decide +kernel
theorem dW_1172 : decode m_law.2.1 1172 = .ok (.iadd, 1) := by decide +kernel
theorem dW_1173 : decode m_law.2.1 1173 = .ok (.iaload, 1) := by decide +kernel
theorem dW_1174 : decode m_law.2.1 1174 = .ok (.aload_n 0, 1) := by decide +kernel
theorem dW_1175 : decode m_law.2.1 1175 = .ok (.iload 4, 2) := by decide +kernel
theorem dW_1177 : decode m_law.2.1 1177 = .ok (.iconst 2, 1) := by decide +kernel
theorem dW_1178 : decode m_law.2.1 1178 = .ok (.iadd, 1) := by decide +kernel
theorem dW_1179 : decode m_law.2.1 1179 = .ok (.iaload, 1) := by decide +kernel
theorem dW_1180 : decode m_law.2.1 1180 = .ok (.invokevirtual 157, 3) := by decide +kernel
theorem dW_1183 : decode m_law.2.1 1183 = .ok (.if_icmp .eq 342, 3) := by decide +kernel
theorem dW_1186 : decode m_law.2.1 1186 = .ok (.iconst 0, 1) := by decide +kernel
theorem dW_1187 : decode m_law.2.1 1187 = .ok (.ireturn, 1) := by decide +kernel
theorem dW_1188 : decode m_law.2.1 1188 = .ok (.aload_n 1, 1) := by decide +kernel
theorem dW_1189 : decode m_law.2.1 1189 = .ok (.aload_n 0, 1) := by decide +kernel
theorem dW_1190 : decode m_law.2.1 1190 = .ok (.iload 4, 2) := by decide +kernel
theorem dW_1192 : decode m_law.2.1 1192 = .ok (.iconst 1, 1) := by decide +kernel
theorem dW_1193 : decode m_law.2.1 1193 = .ok (.iadd, 1) := by decide +kernel
theorem dW_1194 : decode m_law.2.1 1194 = .ok (.iaload, 1) := by decide +kernel
theorem dW_1195 : decode m_law.2.1 1195 = .ok (.invokevirtual 158, 3) := by decide +kernel
theorem dW_1198 : decode m_law.2.1 1198 = .ok (.aload_n 2, 1) := by decide +kernel
theorem dW_1199 : decode m_law.2.1 1199 = .ok (.aload_n 0, 1) := by decide +kernel
theorem dW_1200 : decode m_law.2.1 1200 = .ok (.iload 4, 2) := by decide +kernel
theorem dW_1202 : decode m_law.2.1 1202 = .ok (.iconst 1, 1) := by decide +kernel
theorem dW_1203 : decode m_law.2.1 1203 = .ok (.iadd, 1) := by decide +kernel
theorem dW_1204 : decode m_law.2.1 1204 = .ok (.iaload, 1) := by decide +kernel
theorem dW_1205 : decode m_law.2.1 1205 = .ok (.invokevirtual 161, 3) := by decide +kernel
theorem dW_1208 : decode m_law.2.1 1208 = .ok (.if_icmp .eq 317, 3) := by decide +kernel
theorem dW_1211 : decode m_law.2.1 1211 = .ok (.iconst 0, 1) := by decide +kernel
theorem dW_1212 : decode m_law.2.1 1212 = .ok (.ireturn, 1) := by decide +kernel
theorem dW_1213 : decode m_law.2.1 1213 = .ok (.aload_n 1, 1) := by decide +kernel
theorem dW_1214 : decode m_law.2.1 1214 = .ok (.aload_n 0, 1) := by decide +kernel
theorem dW_1215 : decode m_law.2.1 1215 = .ok (.iload 4, 2) := by decide +kernel
theorem dW_1217 : decode m_law.2.1 1217 = .ok (.iconst 1, 1) := by decide +kernel
theorem dW_1218 : decode m_law.2.1 1218 = .ok (.iadd, 1) := by decide +kernel
theorem dW_1219 : decode m_law.2.1 1219 = .ok (.iaload, 1) := by decide +kernel
theorem dW_1220 : decode m_law.2.1 1220 = .ok (.invokevirtual 162, 3) := by decide +kernel
theorem dW_1223 : decode m_law.2.1 1223 = .ok (.aload_n 2, 1) := by decide +kernel
theorem dW_1224 : decode m_law.2.1 1224 = .ok (.aload_n 0, 1) := by decide +kernel
theorem dW_1225 : decode m_law.2.1 1225 = .ok (.iload 4, 2) := by decide +kernel
theorem dW_1227 : decode m_law.2.1 1227 = .ok (.iconst 1, 1) := by decide +kernel
theorem dW_1228 : decode m_law.2.1 1228 = .ok (.iadd, 1) := by decide +kernel
theorem dW_1229 : decode m_law.2.1 1229 = .ok (.iaload, 1) := by decide +kernel
theorem dW_1230 : decode m_law.2.1 1230 = .ok (.invokevirtual 165, 3) := by decide +kernel
theorem dW_1233 : decode m_law.2.1 1233 = .ok (.if_icmp .eq 292, 3) := by decide +kernel
theorem dW_1236 : decode m_law.2.1 1236 = .ok (.iconst 0, 1) := by decide +kernel
theorem dW_1237 : decode m_law.2.1 1237 = .ok (.ireturn, 1) := by decide +kernel
theorem dW_1238 : decode m_law.2.1 1238 = .ok (.aload_n 1, 1) := by decide +kernel
theorem dW_1239 : decode m_law.2.1 1239 = .ok (.aload_n 0, 1) := by decide +kernel
theorem dW_1240 : decode m_law.2.1 1240 = .ok (.iload 4, 2) := by decide +kernel
theorem dW_1242 : decode m_law.2.1 1242 = .ok (.iconst 1, 1) := by decide +kernel
theorem dW_1243 : decode m_law.2.1 1243 = .ok (.iadd, 1) := by decide +kernel
theorem dW_1244 : decode m_law.2.1 1244 = .ok (.iaload, 1) := by decide +kernel
theorem dW_1245 : decode m_law.2.1 1245 = .ok (.invokevirtual 166, 3) := by decide +kernel
theorem dW_1248 : decode m_law.2.1 1248 = .ok (.aload_n 2, 1) := by decide +kernel
theorem dW_1249 : decode m_law.2.1 1249 = .ok (.aload_n 0, 1) := by decide +kernel
theorem dW_1250 : decode m_law.2.1 1250 = .ok (.iload 4, 2) := by decide +kernel
theorem dW_1252 : decode m_law.2.1 1252 = .ok (.iconst 1, 1) := by decide +kernel
theorem dW_1253 : decode m_law.2.1 1253 = .ok (.iadd, 1) := by decide +kernel
theorem dW_1254 : decode m_law.2.1 1254 = .ok (.iaload, 1) := by decide +kernel
theorem dW_1255 : decode m_law.2.1 1255 = .ok (.invokevirtual 169, 3) := by decide +kernel
theorem dW_1258 : decode m_law.2.1 1258 = .ok (.if_icmp .eq 267, 3) := by decide +kernel
theorem dW_1261 : decode m_law.2.1 1261 = .ok (.iconst 0, 1) := by decide +kernel
theorem dW_1262 : decode m_law.2.1 1262 = .ok (.ireturn, 1) := by decide +kernel
theorem dW_1263 : decode m_law.2.1 1263 = .ok (.aload_n 1, 1) := by decide +kernel
theorem dW_1264 : decode m_law.2.1 1264 = .ok (.aload_n 0, 1) := by decide +kernel
theorem dW_1265 : decode m_law.2.1 1265 = .ok (.iload 4, 2) := by decide +kernel
theorem dW_1267 : decode m_law.2.1 1267 = .ok (.iconst 1, 1) := by decide +kernel
theorem dW_1268 : decode m_law.2.1 1268 = .ok (.iadd, 1) := by decide +kernel
theorem dW_1269 : decode m_law.2.1 1269 = .ok (.iaload, 1) := by decide +kernel
theorem dW_1270 : decode m_law.2.1 1270 = .ok (.invokevirtual 170, 3) := by decide +kernel
theorem dW_1273 : decode m_law.2.1 1273 = .ok (.aload_n 2, 1) := by decide +kernel
theorem dW_1274 : decode m_law.2.1 1274 = .ok (.aload_n 0, 1) := by decide +kernel
theorem dW_1275 : decode m_law.2.1 1275 = .ok (.iload 4, 2) := by decide +kernel
theorem dW_1277 : decode m_law.2.1 1277 = .ok (.iconst 1, 1) := by decide +kernel
theorem dW_1278 : decode m_law.2.1 1278 = .ok (.iadd, 1) := by decide +kernel
theorem dW_1279 : decode m_law.2.1 1279 = .ok (.iaload, 1) := by decide +kernel
theorem dW_1280 : decode m_law.2.1 1280 = .ok (.invokevirtual 173, 3) := by decide +kernel
theorem dW_1283 : decode m_law.2.1 1283 = .ok (.if_icmp .eq 242, 3) := by decide +kernel
theorem dW_1286 : decode m_law.2.1 1286 = .ok (.iconst 0, 1) := by decide +kernel
theorem dW_1287 : decode m_law.2.1 1287 = .ok (.ireturn, 1) := by decide +kernel
theorem dW_1288 : decode m_law.2.1 1288 = .ok (.aload_n 1, 1) := by decide +kernel
theorem dW_1289 : decode m_law.2.1 1289 = .ok (.aload_n 0, 1) := by decide +kernel
theorem dW_1290 : decode m_law.2.1 1290 = .ok (.iload 4, 2) := by decide +kernel
theorem dW_1292 : decode m_law.2.1 1292 = .ok (.iconst 1, 1) := by decide +kernel
theorem dW_1293 : decode m_law.2.1 1293 = .ok (.iadd, 1) := by decide +kernel
theorem dW_1294 : decode m_law.2.1 1294 = .ok (.iaload, 1) := by decide +kernel
theorem dW_1295 : decode m_law.2.1 1295 = .ok (.invokevirtual 174, 3) := by decide +kernel
theorem dW_1298 : decode m_law.2.1 1298 = .ok (.aload_n 2, 1) := by decide +kernel
theorem dW_1299 : decode m_law.2.1 1299 = .ok (.aload_n 0, 1) := by decide +kernel
theorem dW_1300 : decode m_law.2.1 1300 = .ok (.iload 4, 2) := by decide +kernel
theorem dW_1302 : decode m_law.2.1 1302 = .ok (.iconst 1, 1) := by decide +kernel
theorem dW_1303 : decode m_law.2.1 1303 = .ok (.iadd, 1) := by decide +kernel
theorem dW_1304 : decode m_law.2.1 1304 = .ok (.iaload, 1) := by decide +kernel
theorem dW_1305 : decode m_law.2.1 1305 = .ok (.invokevirtual 177, 3) := by decide +kernel
theorem dW_1308 : decode m_law.2.1 1308 = .ok (.if_icmp .eq 217, 3) := by decide +kernel
theorem dW_1311 : decode m_law.2.1 1311 = .ok (.iconst 0, 1) := by decide +kernel
theorem dW_1312 : decode m_law.2.1 1312 = .ok (.ireturn, 1) := by decide +kernel
theorem dW_1313 : decode m_law.2.1 1313 = .ok (.aload_n 1, 1) := by decide +kernel
theorem dW_1314 : decode m_law.2.1 1314 = .ok (.invokevirtual 178, 3) := by decide +kernel
theorem dW_1317 : decode m_law.2.1 1317 = .ok (.aload_n 2, 1) := by decide +kernel
theorem dW_1318 : decode m_law.2.1 1318 = .ok (.invokevirtual 181, 3) := by decide +kernel
theorem dW_1321 : decode m_law.2.1 1321 = .ok (.if_icmp .eq 204, 3) := by decide +kernel
theorem dW_1324 : decode m_law.2.1 1324 = .ok (.iconst 0, 1) := by decide +kernel
theorem dW_1325 : decode m_law.2.1 1325 = .ok (.ireturn, 1) := by decide +kernel
theorem dW_1326 : decode m_law.2.1 1326 = .ok (.aload_n 1, 1) := by decide +kernel
theorem dW_1327 : decode m_law.2.1 1327 = .ok (.aload_n 0, 1) := by decide +kernel
theorem dW_1328 : decode m_law.2.1 1328 = .ok (.iload 4, 2) := by decide +kernel
theorem dW_1330 : decode m_law.2.1 1330 = .ok (.iconst 1, 1) := by decide +kernel
theorem dW_1331 : decode m_law.2.1 1331 = .ok (.iadd, 1) := by decide +kernel
theorem dW_1332 : decode m_law.2.1 1332 = .ok (.iaload, 1) := by decide +kernel
theorem dW_1333 : decode m_law.2.1 1333 = .ok (.invokevirtual 182, 3) := by decide +kernel
theorem dW_1336 : decode m_law.2.1 1336 = .ok (.aload_n 2, 1) := by decide +kernel
theorem dW_1337 : decode m_law.2.1 1337 = .ok (.aload_n 0, 1) := by decide +kernel
theorem dW_1338 : decode m_law.2.1 1338 = .ok (.iload 4, 2) := by decide +kernel
theorem dW_1340 : decode m_law.2.1 1340 = .ok (.iconst 1, 1) := by decide +kernel
theorem dW_1341 : decode m_law.2.1 1341 = .ok (.iadd, 1) := by decide +kernel
theorem dW_1342 : decode m_law.2.1 1342 = .ok (.iaload, 1) := by decide +kernel
theorem dW_1343 : decode m_law.2.1 1343 = .ok (.invokevirtual 185, 3) := by decide +kernel
theorem dW_1346 : decode m_law.2.1 1346 = .ok (.if_icmp .eq 179, 3) := by decide +kernel
theorem dW_1349 : decode m_law.2.1 1349 = .ok (.iconst 0, 1) := by decide +kernel
theorem dW_1350 : decode m_law.2.1 1350 = .ok (.ireturn, 1) := by decide +kernel
theorem dW_1351 : decode m_law.2.1 1351 = .ok (.aload_n 1, 1) := by decide +kernel
theorem dW_1352 : decode m_law.2.1 1352 = .ok (.aload_n 0, 1) := by decide +kernel
theorem dW_1353 : decode m_law.2.1 1353 = .ok (.iload 4, 2) := by decide +kernel
theorem dW_1355 : decode m_law.2.1 1355 = .ok (.iconst 1, 1) := by decide +kernel
theorem dW_1356 : decode m_law.2.1 1356 = .ok (.iadd, 1) := by decide +kernel
theorem dW_1357 : decode m_law.2.1 1357 = .ok (.iaload, 1) := by decide +kernel
theorem dW_1358 : decode m_law.2.1 1358 = .ok (.invokevirtual 186, 3) := by decide +kernel
theorem dW_1361 : decode m_law.2.1 1361 = .ok (.aload_n 2, 1) := by decide +kernel
theorem dW_1362 : decode m_law.2.1 1362 = .ok (.aload_n 0, 1) := by decide +kernel
theorem dW_1363 : decode m_law.2.1 1363 = .ok (.iload 4, 2) := by decide +kernel
theorem dW_1365 : decode m_law.2.1 1365 = .ok (.iconst 1, 1) := by decide +kernel
theorem dW_1366 : decode m_law.2.1 1366 = .ok (.iadd, 1) := by decide +kernel
theorem dW_1367 : decode m_law.2.1 1367 = .ok (.iaload, 1) := by decide +kernel
theorem dW_1368 : decode m_law.2.1 1368 = .ok (.invokevirtual 189, 3) := by decide +kernel
theorem dW_1371 : decode m_law.2.1 1371 = .ok (.if_icmp .eq 154, 3) := by decide +kernel
theorem dW_1374 : decode m_law.2.1 1374 = .ok (.iconst 0, 1) := by decide +kernel
theorem dW_1375 : decode m_law.2.1 1375 = .ok (.ireturn, 1) := by decide +kernel
theorem dW_1376 : decode m_law.2.1 1376 = .ok (.aload_n 1, 1) := by decide +kernel
theorem dW_1377 : decode m_law.2.1 1377 = .ok (.aload_n 0, 1) := by decide +kernel
theorem dW_1378 : decode m_law.2.1 1378 = .ok (.iload 4, 2) := by decide +kernel
theorem dW_1380 : decode m_law.2.1 1380 = .ok (.iconst 1, 1) := by decide +kernel
theorem dW_1381 : decode m_law.2.1 1381 = .ok (.iadd, 1) := by decide +kernel
theorem dW_1382 : decode m_law.2.1 1382 = .ok (.iaload, 1) := by decide +kernel
theorem dW_1383 : decode m_law.2.1 1383 = .ok (.aload_n 0, 1) := by decide +kernel
theorem dW_1384 : decode m_law.2.1 1384 = .ok (.iload 4, 2) := by decide +kernel
theorem dW_1386 : decode m_law.2.1 1386 = .ok (.iconst 2, 1) := by decide +kernel
theorem dW_1387 : decode m_law.2.1 1387 = .ok (.iadd, 1) := by decide +kernel
theorem dW_1388 : decode m_law.2.1 1388 = .ok (.iaload, 1) := by decide +kernel
theorem dW_1389 : decode m_law.2.1 1389 = .ok (.invokevirtual 190, 3) := by decide +kernel
theorem dW_1392 : decode m_law.2.1 1392 = .ok (.aload_n 2, 1) := by decide +kernel
theorem dW_1393 : decode m_law.2.1 1393 = .ok (.aload_n 0, 1) := by decide +kernel
theorem dW_1394 : decode m_law.2.1 1394 = .ok (.iload 4, 2) := by decide +kernel
theorem dW_1396 : decode m_law.2.1 1396 = .ok (.iconst 1, 1) := by decide +kernel
theorem dW_1397 : decode m_law.2.1 1397 = .ok (.iadd, 1) := by decide +kernel
theorem dW_1398 : decode m_law.2.1 1398 = .ok (.iaload, 1) := by decide +kernel
theorem dW_1399 : decode m_law.2.1 1399 = .ok (.aload_n 0, 1) := by decide +kernel
theorem dW_1400 : decode m_law.2.1 1400 = .ok (.iload 4, 2) := by decide +kernel
theorem dW_1402 : decode m_law.2.1 1402 = .ok (.iconst 2, 1) := by decide +kernel
theorem dW_1403 : decode m_law.2.1 1403 = .ok (.iadd, 1) := by decide +kernel
theorem dW_1404 : decode m_law.2.1 1404 = .ok (.iaload, 1) := by decide +kernel
theorem dW_1405 : decode m_law.2.1 1405 = .ok (.invokevirtual 193, 3) := by decide +kernel
theorem dW_1408 : decode m_law.2.1 1408 = .ok (.if_icmp .eq 117, 3) := by decide +kernel
theorem dW_1411 : decode m_law.2.1 1411 = .ok (.iconst 0, 1) := by decide +kernel
theorem dW_1412 : decode m_law.2.1 1412 = .ok (.ireturn, 1) := by decide +kernel
theorem dW_1413 : decode m_law.2.1 1413 = .ok (.aload_n 1, 1) := by decide +kernel
theorem dW_1414 : decode m_law.2.1 1414 = .ok (.aload_n 0, 1) := by decide +kernel
theorem dW_1415 : decode m_law.2.1 1415 = .ok (.iload 4, 2) := by decide +kernel
theorem dW_1417 : decode m_law.2.1 1417 = .ok (.iconst 1, 1) := by decide +kernel
theorem dW_1418 : decode m_law.2.1 1418 = .ok (.iadd, 1) := by decide +kernel
theorem dW_1419 : decode m_law.2.1 1419 = .ok (.iaload, 1) := by decide +kernel
theorem dW_1420 : decode m_law.2.1 1420 = .ok (.invokevirtual 194, 3) := by decide +kernel
theorem dW_1423 : decode m_law.2.1 1423 = .ok (.aload_n 2, 1) := by decide +kernel
theorem dW_1424 : decode m_law.2.1 1424 = .ok (.aload_n 0, 1) := by decide +kernel
theorem dW_1425 : decode m_law.2.1 1425 = .ok (.iload 4, 2) := by decide +kernel
theorem dW_1427 : decode m_law.2.1 1427 = .ok (.iconst 1, 1) := by decide +kernel
theorem dW_1428 : decode m_law.2.1 1428 = .ok (.iadd, 1) := by decide +kernel
theorem dW_1429 : decode m_law.2.1 1429 = .ok (.iaload, 1) := by decide +kernel
theorem dW_1430 : decode m_law.2.1 1430 = .ok (.invokevirtual 197, 3) := by decide +kernel
theorem dW_1433 : decode m_law.2.1 1433 = .ok (.if_icmp .eq 92, 3) := by decide +kernel
theorem dW_1436 : decode m_law.2.1 1436 = .ok (.iconst 0, 1) := by decide +kernel
theorem dW_1437 : decode m_law.2.1 1437 = .ok (.ireturn, 1) := by decide +kernel
theorem dW_1438 : decode m_law.2.1 1438 = .ok (.aload_n 1, 1) := by decide +kernel
theorem dW_1439 : decode m_law.2.1 1439 = .ok (.aload_n 0, 1) := by decide +kernel
theorem dW_1440 : decode m_law.2.1 1440 = .ok (.iload 4, 2) := by decide +kernel
theorem dW_1442 : decode m_law.2.1 1442 = .ok (.iconst 1, 1) := by decide +kernel
theorem dW_1443 : decode m_law.2.1 1443 = .ok (.iadd, 1) := by decide +kernel
theorem dW_1444 : decode m_law.2.1 1444 = .ok (.iaload, 1) := by decide +kernel
theorem dW_1445 : decode m_law.2.1 1445 = .ok (.invokevirtual 198, 3) := by decide +kernel
theorem dW_1448 : decode m_law.2.1 1448 = .ok (.aload_n 2, 1) := by decide +kernel
theorem dW_1449 : decode m_law.2.1 1449 = .ok (.aload_n 0, 1) := by decide +kernel
theorem dW_1450 : decode m_law.2.1 1450 = .ok (.iload 4, 2) := by decide +kernel
theorem dW_1452 : decode m_law.2.1 1452 = .ok (.iconst 1, 1) := by decide +kernel
theorem dW_1453 : decode m_law.2.1 1453 = .ok (.iadd, 1) := by decide +kernel
theorem dW_1454 : decode m_law.2.1 1454 = .ok (.iaload, 1) := by decide +kernel
theorem dW_1455 : decode m_law.2.1 1455 = .ok (.invokevirtual 201, 3) := by decide +kernel
theorem dW_1458 : decode m_law.2.1 1458 = .ok (.if_icmp .eq 67, 3) := by decide +kernel
theorem dW_1461 : decode m_law.2.1 1461 = .ok (.iconst 0, 1) := by decide +kernel
theorem dW_1462 : decode m_law.2.1 1462 = .ok (.ireturn, 1) := by decide +kernel
theorem dW_1463 : decode m_law.2.1 1463 = .ok (.aload_n 1, 1) := by decide +kernel
theorem dW_1464 : decode m_law.2.1 1464 = .ok (.aload_n 0, 1) := by decide +kernel
theorem dW_1465 : decode m_law.2.1 1465 = .ok (.iload 4, 2) := by decide +kernel
theorem dW_1467 : decode m_law.2.1 1467 = .ok (.iconst 1, 1) := by decide +kernel
theorem dW_1468 : decode m_law.2.1 1468 = .ok (.iadd, 1) := by decide +kernel
theorem dW_1469 : decode m_law.2.1 1469 = .ok (.iaload, 1) := by decide +kernel
theorem dW_1470 : decode m_law.2.1 1470 = .ok (.aload_n 0, 1) := by decide +kernel
theorem dW_1471 : decode m_law.2.1 1471 = .ok (.iload 4, 2) := by decide +kernel
theorem dW_1473 : decode m_law.2.1 1473 = .ok (.iconst 2, 1) := by decide +kernel
theorem dW_1474 : decode m_law.2.1 1474 = .ok (.iadd, 1) := by decide +kernel
theorem dW_1475 : decode m_law.2.1 1475 = .ok (.iaload, 1) := by decide +kernel
theorem dW_1476 : decode m_law.2.1 1476 = .ok (.invokevirtual 202, 3) := by decide +kernel
theorem dW_1479 : decode m_law.2.1 1479 = .ok (.aload_n 2, 1) := by decide +kernel
theorem dW_1480 : decode m_law.2.1 1480 = .ok (.aload_n 0, 1) := by decide +kernel
theorem dW_1481 : decode m_law.2.1 1481 = .ok (.iload 4, 2) := by decide +kernel
theorem dW_1483 : decode m_law.2.1 1483 = .ok (.iconst 1, 1) := by decide +kernel
theorem dW_1484 : decode m_law.2.1 1484 = .ok (.iadd, 1) := by decide +kernel
theorem dW_1485 : decode m_law.2.1 1485 = .ok (.iaload, 1) := by decide +kernel
theorem dW_1486 : decode m_law.2.1 1486 = .ok (.aload_n 0, 1) := by decide +kernel
theorem dW_1487 : decode m_law.2.1 1487 = .ok (.iload 4, 2) := by decide +kernel
theorem dW_1489 : decode m_law.2.1 1489 = .ok (.iconst 2, 1) := by decide +kernel
theorem dW_1490 : decode m_law.2.1 1490 = .ok (.iadd, 1) := by decide +kernel
theorem dW_1491 : decode m_law.2.1 1491 = .ok (.iaload, 1) := by decide +kernel
theorem dW_1492 : decode m_law.2.1 1492 = .ok (.invokevirtual 205, 3) := by decide +kernel
theorem dW_1495 : decode m_law.2.1 1495 = .ok (.if_icmp .eq 30, 3) := by decide +kernel
theorem dW_1498 : decode m_law.2.1 1498 = .ok (.iconst 0, 1) := by decide +kernel
theorem dW_1499 : decode m_law.2.1 1499 = .ok (.ireturn, 1) := by decide +kernel
theorem dW_1500 : decode m_law.2.1 1500 = .ok (.aload_n 1, 1) := by decide +kernel
theorem dW_1501 : decode m_law.2.1 1501 = .ok (.aload_n 0, 1) := by decide +kernel
theorem dW_1502 : decode m_law.2.1 1502 = .ok (.iload 4, 2) := by decide +kernel
theorem dW_1504 : decode m_law.2.1 1504 = .ok (.iconst 1, 1) := by decide +kernel
theorem dW_1505 : decode m_law.2.1 1505 = .ok (.iadd, 1) := by decide +kernel
theorem dW_1506 : decode m_law.2.1 1506 = .ok (.iaload, 1) := by decide +kernel
theorem dW_1507 : decode m_law.2.1 1507 = .ok (.invokevirtual 206, 3) := by decide +kernel
theorem dW_1510 : decode m_law.2.1 1510 = .ok (.aload_n 2, 1) := by decide +kernel
theorem dW_1511 : decode m_law.2.1 1511 = .ok (.aload_n 0, 1) := by decide +kernel
theorem dW_1512 : decode m_law.2.1 1512 = .ok (.iload 4, 2) := by decide +kernel
theorem dW_1514 : decode m_law.2.1 1514 = .ok (.iconst 1, 1) := by decide +kernel
theorem dW_1515 : decode m_law.2.1 1515 = .ok (.iadd, 1) := by decide +kernel
theorem dW_1516 : decode m_law.2.1 1516 = .ok (.iaload, 1) := by decide +kernel
theorem dW_1517 : decode m_law.2.1 1517 = .ok (.invokevirtual 209, 3) := by decide +kernel
theorem dW_1520 : decode m_law.2.1 1520 = .ok (.if_icmp .eq 5, 3) := by decide +kernel
theorem dW_1523 : decode m_law.2.1 1523 = .ok (.iconst 0, 1) := by decide +kernel
theorem dW_1524 : decode m_law.2.1 1524 = .ok (.ireturn, 1) := by decide +kernel
theorem dW_1525 : decode m_law.2.1 1525 = .ok (.iinc 4 6, 3) := by decide +kernel
theorem dW_1528 : decode m_law.2.1 1528 = .ok (.goto (-1505), 3) := by decide +kernel
theorem dW_1531 : decode m_law.2.1 1531 = .ok (.iconst 1, 1) := by decide +kernel
theorem dW_1532 : decode m_law.2.1 1532 = .ok (.ireturn, 1) := by decide +kernel
