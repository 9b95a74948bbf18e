/-! L_law -/
theorem dL_law_0 : decode cL_law 0 = .ok (.new 7, 3) := by decide +kernel
theorem dL_law_3 : decode cL_law 3 = .ok (.dup, 1) := by decide +kernel
theorem dL_law_4 : decode cL_law 4 = .ok (.invokespecial 9, 3) := by decide +kernel
theorem dL_law_7 : decode cL_law 7 = .ok (.astore_n 1, 1) := by decide +kernel
theorem dL_law_8 : decode cL_law 8 = .ok (.new 10, 3) := by decide +kernel
theorem dL_law_11 : decode cL_law 11 = .ok (.dup, 1) := by decide +kernel
theorem dL_law_12 : decode cL_law 12 = .ok (.invokespecial 12, 3) := by decide +kernel
theorem dL_law_15 : decode cL_law 15 = .ok (.astore_n 2, 1) := by decide +kernel
theorem dL_law_16 : decode cL_law 16 = .ok (.iconst 0, 1) := by decide +kernel
theorem dL_law_17 : decode cL_law 17 = .ok (.istore_n 3, 1) := by decide +kernel
theorem dL_law_18 : decode cL_law 18 = .ok (.iload_n 3, 1) := by decide +kernel
theorem dL_law_19 : decode cL_law 19 = .ok (.aload_n 0, 1) := by decide +kernel
theorem dL_law_20 : decode cL_law 20 = .ok (.arraylength, 1) := by decide +kernel
theorem dL_law_21 : decode cL_law 21 = .ok (.bipush 6, 2) := by decide +kernel
theorem dL_law_23 : decode cL_law 23 = .ok (.isub, 1) := by decide +kernel
theorem dL_law_24 : decode cL_law 24 = .ok (.if_icmp .gt 2061, 3) := by decide +kernel
theorem dL_law_27 : decode cL_law 27 = .ok (.aload_n 0, 1) := by decide +kernel
theorem dL_law_28 : decode cL_law 28 = .ok (.iload_n 3, 1) := by decide +kernel
theorem dL_law_29 : decode cL_law 29 = .ok (.iaload, 1) := by decide +kernel
theorem dL_law_30 : decode cL_law 30 = .ok (.bipush 63, 2) := by decide +kernel
theorem dL_law_32 : decode cL_law 32 = .ok (.iand, 1) := by decide +kernel
theorem dL_law_33 : decode cL_law 33 = .ok (.tableswitch 2046 0 55 #[239, 252, 266, 280, 323, 396, 430, 493, 556, 579, 602, 625, 648, 681, 704, 737, 770, 803, 846, 879, 912, 935, 994, 1027, 1050, 1083, 1116, 1139, 1172, 1205, 1238, 1281, 1334, 1357, 1380, 1413, 1456, 1499, 1522, 1555, 1588, 1621, 1664, 1687, 1720, 1753, 1786, 1819, 1852, 1885, 1918, 1941, 1964, 1987, 2020, 2033], 239) := by decide +kernel
theorem dL_law_272 : decode cL_law 272 = .ok (.aload_n 1, 1) := by decide +kernel
theorem dL_law_273 : decode cL_law 273 = .ok (.invokevirtual 13, 3) := by decide +kernel
theorem dL_law_276 : decode cL_law 276 = .ok (.aload_n 2, 1) := by decide +kernel
theorem dL_law_277 : decode cL_law 277 = .ok (.invokevirtual 17, 3) := by decide +kernel
theorem dL_law_280 : decode cL_law 280 = .ok (.if_icmp .eq 1799, 3) := by decide +kernel
theorem dL_law_283 : decode cL_law 283 = .ok (.iconst 0, 1) := by decide +kernel
theorem dL_law_284 : decode cL_law 284 = .ok (.ireturn, 1) := by decide +kernel
theorem dL_law_285 : decode cL_law 285 = .ok (.aload_n 1, 1) := by decide +kernel
theorem dL_law_286 : decode cL_law 286 = .ok (.invokevirtual 18, 3) := by decide +kernel
theorem dL_law_289 : decode cL_law 289 = .ok (.aload_n 2, 1) := by decide +kernel
theorem dL_law_290 : decode cL_law 290 = .ok (.invokevirtual 22, 3) := by decide +kernel
theorem dL_law_293 : decode cL_law 293 = .ok (.lcmp, 1) := by decide +kernel
theorem dL_law_294 : decode cL_law 294 = .ok (.ifCond .eq 1785, 3) := by decide +kernel
theorem dL_law_297 : decode cL_law 297 = .ok (.iconst 0, 1) := by decide +kernel
theorem dL_law_298 : decode cL_law 298 = .ok (.ireturn, 1) := by decide +kernel
theorem dL_law_299 : decode cL_law 299 = .ok (.aload_n 1, 1) := by decide +kernel
theorem dL_law_300 : decode cL_law 300 = .ok (.invokevirtual 23, 3) := by decide +kernel
theorem dL_law_303 : decode cL_law 303 = .ok (.aload_n 2, 1) := by decide +kernel
theorem dL_law_304 : decode cL_law 304 = .ok (.invokevirtual 26, 3) := by decide +kernel
theorem dL_law_307 : decode cL_law 307 = .ok (.lcmp, 1) := by decide +kernel
theorem dL_law_308 : decode cL_law 308 = .ok (.ifCond .eq 1771, 3) := by decide +kernel
theorem dL_law_311 : decode cL_law 311 = .ok (.iconst 0, 1) := by decide +kernel
theorem dL_law_312 : decode cL_law 312 = .ok (.ireturn, 1) := by decide +kernel
theorem dL_law_313 : decode cL_law 313 = .ok (.aload_n 1, 1) := by decide +kernel
theorem dL_law_314 : decode cL_law 314 = .ok (.aload_n 0, 1) := by decide +kernel
theorem dL_law_315 : decode cL_law 315 = .ok (.iload_n 3, 1) := by decide +kernel
theorem dL_law_316 : decode cL_law 316 = .ok (.iconst 1, 1) := by decide +kernel
theorem dL_law_317 : decode cL_law 317 = .ok (.iadd, 1) := by decide +kernel
theorem dL_law_318 : decode cL_law 318 = .ok (.iaload, 1) := by decide +kernel
theorem dL_law_319 : decode cL_law 319 = .ok (.aload_n 0, 1) := by decide +kernel
theorem dL_law_320 : decode cL_law 320 = .ok (.iload_n 3, 1) := by decide +kernel
theorem dL_law_321 : decode cL_law 321 = .ok (.iconst 2, 1) := by decide +kernel
theorem dL_law_322 : decode cL_law 322 = .ok (.iadd, 1) := by decide +kernel
theorem dL_law_323 : decode cL_law 323 = .ok (.iaload, 1) := by decide +kernel
theorem dL_law_324 : decode cL_law 324 = .ok (.aload_n 0, 1) := by decide +kernel
theorem dL_law_325 : decode cL_law 325 = .ok (.iload_n 3, 1) := by decide +kernel
theorem dL_law_326 : decode cL_law 326 = .ok (.iconst 3, 1) := by decide +kernel
theorem dL_law_327 : decode cL_law 327 = .ok (.iadd, 1) := by decide +kernel
theorem dL_law_328 : decode cL_law 328 = .ok (.iaload, 1) := by decide +kernel
theorem dL_law_329 : decode cL_law 329 = .ok (.invokevirtual 27, 3) := by decide +kernel
theorem dL_law_332 : decode cL_law 332 = .ok (.aload_n 2, 1) := by decide +kernel
theorem dL_law_333 : decode cL_law 333 = .ok (.aload_n 0, 1) := by decide +kernel
theorem dL_law_334 : decode cL_law 334 = .ok (.iload_n 3, 1) := by decide +kernel
theorem dL_law_335 : decode cL_law 335 = .ok (.iconst 1, 1) := by decide +kernel
theorem dL_law_336 : decode cL_law 336 = .ok (.iadd, 1) := by decide +kernel
theorem dL_law_337 : decode cL_law 337 = .ok (.iaload, 1) := by decide +kernel
theorem dL_law_338 : decode cL_law 338 = .ok (.aload_n 0, 1) := by decide +kernel
theorem dL_law_339 : decode cL_law 339 = .ok (.iload_n 3, 1) := by decide +kernel
theorem dL_law_340 : decode cL_law 340 = .ok (.iconst 2, 1) := by decide +kernel
theorem dL_law_341 : decode cL_law 341 = .ok (.iadd, 1) := by decide +kernel
theorem dL_law_342 : decode cL_law 342 = .ok (.iaload, 1) := by decide +kernel
theorem dL_law_343 : decode cL_law 343 = .ok (.aload_n 0, 1) := by decide +kernel
theorem dL_law_344 : decode cL_law 344 = .ok (.iload_n 3, 1) := by decide +kernel
theorem dL_law_345 : decode cL_law 345 = .ok (.iconst 3, 1) := by decide +kernel
theorem dL_law_346 : decode cL_law 346 = .ok (.iadd, 1) := by decide +kernel
theorem dL_law_347 : decode cL_law 347 = .ok (.iaload, 1) := by decide +kernel
theorem dL_law_348 : decode cL_law 348 = .ok (.invokevirtual 31, 3) := by decide +kernel
theorem dL_law_351 : decode cL_law 351 = .ok (.if_icmp .eq 1728, 3) := by decide +kernel
theorem dL_law_354 : decode cL_law 354 = .ok (.iconst 0, 1) := by decide +kernel
theorem dL_law_355 : decode cL_law 355 = .ok (.ireturn, 1) := by decide +kernel
theorem dL_law_356 : decode cL_law 356 = .ok (.aload_n 1, 1) := by decide +kernel
theorem dL_law_357 : decode cL_law 357 = .ok (.aload_n 0, 1) := by decide +kernel
theorem dL_law_358 : decode cL_law 358 = .ok (.iload_n 3, 1) := by decide +kernel
theorem dL_law_359 : decode cL_law 359 = .ok (.iconst 1, 1) := by decide +kernel
theorem dL_law_360 : decode cL_law 360 = .ok (.iadd, 1) := by decide +kernel
theorem dL_law_361 : decode cL_law 361 = .ok (.iaload, 1) := by decide +kernel
theorem dL_law_362 : decode cL_law 362 = .ok (.aload_n 0, 1) := by decide +kernel
theorem dL_law_363 : decode cL_law 363 = .ok (.iload_n 3, 1) := by decide +kernel
theorem dL_law_364 : decode cL_law 364 = .ok (.iconst 2, 1) := by decide +kernel
theorem dL_law_365 : decode cL_law 365 = .ok (.iadd, 1) := by decide +kernel
theorem dL_law_366 : decode cL_law 366 = .ok (.iaload, 1) := by decide +kernel
theorem dL_law_367 : decode cL_law 367 = .ok (.aload_n 0, 1) := by decide +kernel
theorem dL_law_368 : decode cL_law 368 = .ok (.iload_n 3, 1) := by decide +kernel
theorem dL_law_369 : decode cL_law 369 = .ok (.iconst 3, 1) := by decide +kernel
theorem dL_law_370 : decode cL_law 370 = .ok (.iadd, 1) := by decide +kernel
theorem dL_law_371 : decode cL_law 371 = .ok (.iaload, 1) := by decide +kernel
theorem dL_law_372 : decode cL_law 372 = .ok (.i2l, 1) := by decide +kernel
theorem dL_law_373 : decode cL_law 373 = .ok (.bipush 32, 2) := by decide +kernel
theorem dL_law_375 : decode cL_law 375 = .ok (.lshl, 1) := by decide +kernel
theorem dL_law_376 : decode cL_law 376 = .ok (.aload_n 0, 1) := by decide +kernel
theorem dL_law_377 : decode cL_law 377 = .ok (.iload_n 3, 1) := by decide +kernel
theorem dL_law_378 : decode cL_law 378 = .ok (.iconst 4, 1) := by decide +kernel
theorem dL_law_379 : decode cL_law 379 = .ok (.iadd, 1) := by decide +kernel
theorem dL_law_380 : decode cL_law 380 = .ok (.iaload, 1) := by decide +kernel
theorem dL_law_381 : decode cL_law 381 = .ok (.i2l, 1) := by decide +kernel
theorem dL_law_382 : decode cL_law 382 = .ok (.ldc2_w 32, 3) := by decide +kernel
theorem dL_law_385 : decode cL_law 385 = .ok (.land, 1) := by decide +kernel
theorem dL_law_386 : decode cL_law 386 = .ok (.lor, 1) := by decide +kernel
theorem dL_law_387 : decode cL_law 387 = .ok (.invokevirtual 34, 3) := by decide +kernel
theorem dL_law_390 : decode cL_law 390 = .ok (.aload_n 2, 1) := by decide +kernel
theorem dL_law_391 : decode cL_law 391 = .ok (.aload_n 0, 1) := by decide +kernel
theorem dL_law_392 : decode cL_law 392 = .ok (.iload_n 3, 1) := by decide +kernel
theorem dL_law_393 : decode cL_law 393 = .ok (.iconst 1, 1) := by decide +kernel
theorem dL_law_394 : decode cL_law 394 = .ok (.iadd, 1) := by decide +kernel
theorem dL_law_395 : decode cL_law 395 = .ok (.iaload, 1) := by decide +kernel
theorem dL_law_396 : decode cL_law 396 = .ok (.aload_n 0, 1) := by decide +kernel
theorem dL_law_397 : decode cL_law 397 = .ok (.iload_n 3, 1) := by decide +kernel
theorem dL_law_398 : decode cL_law 398 = .ok (.iconst 2, 1) := by decide +kernel
theorem dL_law_399 : decode cL_law 399 = .ok (.iadd, 1) := by decide +kernel
theorem dL_law_400 : decode cL_law 400 = .ok (.iaload, 1) := by decide +kernel
theorem dL_law_401 : decode cL_law 401 = .ok (.aload_n 0, 1) := by decide +kernel
theorem dL_law_402 : decode cL_law 402 = .ok (.iload_n 3, 1) := by decide +kernel
theorem dL_law_403 : decode cL_law 403 = .ok (.iconst 3, 1) := by decide +kernel
theorem dL_law_404 : decode cL_law 404 = .ok (.iadd, 1) := by decide +kernel
theorem dL_law_405 : decode cL_law 405 = .ok (.iaload, 1) := by decide +kernel
theorem dL_law_406 : decode cL_law 406 = .ok (.i2l, 1) := by decide +kernel
theorem dL_law_407 : decode cL_law 407 = .ok (.bipush 32, 2) := by decide +kernel
theorem dL_law_409 : decode cL_law 409 = .ok (.lshl, 1) := by decide +kernel
theorem dL_law_410 : decode cL_law 410 = .ok (.aload_n 0, 1) := by decide +kernel
theorem dL_law_411 : decode cL_law 411 = .ok (.iload_n 3, 1) := by decide +kernel
theorem dL_law_412 : decode cL_law 412 = .ok (.iconst 4, 1) := by decide +kernel
theorem dL_law_413 : decode cL_law 413 = .ok (.iadd, 1) := by decide +kernel
theorem dL_law_414 : decode cL_law 414 = .ok (.iaload, 1) := by decide +kernel
theorem dL_law_415 : decode cL_law 415 = .ok (.i2l, 1) := by decide +kernel
theorem dL_law_416 : decode cL_law 416 = .ok (.ldc2_w 32, 3) := by decide +kernel
theorem dL_law_419 : decode cL_law 419 = .ok (.land, 1) := by decide +kernel
theorem dL_law_420 : decode cL_law 420 = .ok (.lor, 1) := by decide +kernel
theorem dL_law_421 : decode cL_law 421 = .ok (.invokevirtual 38, 3) := by decide +kernel
theorem dL_law_424 : decode cL_law 424 = .ok (.if_icmp .eq 1655, 3) := by decide +kernel
theorem dL_law_427 : decode cL_law 427 = .ok (.iconst 0, 1) := by decide +kernel
theorem dL_law_428 : decode cL_law 428 = .ok (.ireturn, 1) := by decide +kernel
theorem dL_law_429 : decode cL_law 429 = .ok (.aload_n 1, 1) := by decide +kernel
theorem dL_law_430 : decode cL_law 430 = .ok (.aload_n 0, 1) := by decide +kernel
theorem dL_law_431 : decode cL_law 431 = .ok (.iload_n 3, 1) := by decide +kernel
theorem dL_law_432 : decode cL_law 432 = .ok (.iconst 1, 1) := by decide +kernel
theorem dL_law_433 : decode cL_law 433 = .ok (.iadd, 1) := by decide +kernel
theorem dL_law_434 : decode cL_law 434 = .ok (.iaload, 1) := by decide +kernel
theorem dL_law_435 : decode cL_law 435 = .ok (.aload_n 0, 1) := by decide +kernel
theorem dL_law_436 : decode cL_law 436 = .ok (.iload_n 3, 1) := by decide +kernel
theorem dL_law_437 : decode cL_law 437 = .ok (.iconst 2, 1) := by decide +kernel
theorem dL_law_438 : decode cL_law 438 = .ok (.iadd, 1) := by decide +kernel
theorem dL_law_439 : decode cL_law 439 = .ok (.iaload, 1) := by decide +kernel
theorem dL_law_440 : decode cL_law 440 = .ok (.invokevirtual 39, 3) := by decide +kernel
theorem dL_law_443 : decode cL_law 443 = .ok (.aload_n 2, 1) := by decide +kernel
theorem dL_law_444 : decode cL_law 444 = .ok (.aload_n 0, 1) := by decide +kernel
theorem dL_law_445 : decode cL_law 445 = .ok (.iload_n 3, 1) := by decide +kernel
theorem dL_law_446 : decode cL_law 446 = .ok (.iconst 1, 1) := by decide +kernel
theorem dL_law_447 : decode cL_law 447 = .ok (.iadd, 1) := by decide +kernel
theorem dL_law_448 : decode cL_law 448 = .ok (.iaload, 1) := by decide +kernel
theorem dL_law_449 : decode cL_law 449 = .ok (.aload_n 0, 1) := by decide +kernel
theorem dL_law_450 : decode cL_law 450 = .ok (.iload_n 3, 1) := by decide +kernel
theorem dL_law_451 : decode cL_law 451 = .ok (.iconst 2, 1) := by decide +kernel
theorem dL_law_452 : decode cL_law 452 = .ok (.iadd, 1) := by decide +kernel
theorem dL_law_453 : decode cL_law 453 = .ok (.iaload, 1) := by decide +kernel
theorem dL_law_454 : decode cL_law 454 = .ok (.invokevirtual 43, 3) := by decide +kernel
theorem dL_law_457 : decode cL_law 457 = .ok (.lcmp, 1) := by decide +kernel
theorem dL_law_458 : decode cL_law 458 = .ok (.ifCond .eq 1621, 3) := by decide +kernel
theorem dL_law_461 : decode cL_law 461 = .ok (.iconst 0, 1) := by decide +kernel
theorem dL_law_462 : decode cL_law 462 = .ok (.ireturn, 1) := by decide +kernel
theorem dL_law_463 : decode cL_law 463 = .ok (.aload_n 1, 1) := by decide +kernel
theorem dL_law_464 : decode cL_law 464 = .ok (.aload_n 0, 1) := by decide +kernel
theorem dL_law_465 : decode cL_law 465 = .ok (.iload_n 3, 1) := by decide +kernel
theorem dL_law_466 : decode cL_law 466 = .ok (.iconst 1, 1) := by decide +kernel
theorem dL_law_467 : decode cL_law 467 = .ok (.iadd, 1) := by decide +kernel
theorem dL_law_468 : decode cL_law 468 = .ok (.iaload, 1) := by decide +kernel
theorem dL_law_469 : decode cL_law 469 = .ok (.aload_n 0, 1) := by decide +kernel
theorem dL_law_470 : decode cL_law 470 = .ok (.iload_n 3, 1) := by decide +kernel
theorem dL_law_471 : decode cL_law 471 = .ok (.iconst 2, 1) := by decide +kernel
theorem dL_law_472 : decode cL_law 472 = .ok (.iadd, 1) := by decide +kernel
theorem dL_law_473 : decode cL_law 473 = .ok (.iaload, 1) := by decide +kernel
theorem dL_law_474 : decode cL_law 474 = .ok (.aload_n 0, 1) := by decide +kernel
theorem dL_law_475 : decode cL_law 475 = .ok (.iload_n 3, 1) := by decide +kernel
theorem dL_law_476 : decode cL_law 476 = .ok (.iconst 3, 1) := by decide +kernel
theorem dL_law_477 : decode cL_law 477 = .ok (.iadd, 1) := by decide +kernel
theorem dL_law_478 : decode cL_law 478 = .ok (.iaload, 1) := by decide +kernel
theorem dL_law_479 : decode cL_law 479 = .ok (.aload_n 0, 1) := by decide +kernel
theorem dL_law_480 : decode cL_law 480 = .ok (.iload_n 3, 1) := by decide +kernel
theorem dL_law_481 : decode cL_law 481 = .ok (.iconst 4, 1) := by decide +kernel
theorem dL_law_482 : decode cL_law 482 = .ok (.iadd, 1) := by decide +kernel
theorem dL_law_483 : decode cL_law 483 = .ok (.iaload, 1) := by decide +kernel
theorem dL_law_484 : decode cL_law 484 = .ok (.aload_n 0, 1) := by decide +kernel
theorem dL_law_485 : decode cL_law 485 = .ok (.iload_n 3, 1) := by decide +kernel
theorem dL_law_486 : decode cL_law 486 = .ok (.iconst 5, 1) := by decide +kernel
theorem dL_law_487 : decode cL_law 487 = .ok (.iadd, 1) := by decide +kernel
theorem dL_law_488 : decode cL_law 488 = .ok (.iaload, 1) := by decide +kernel
theorem dL_law_489 : decode cL_law 489 = .ok (.invokevirtual 44, 3) := by decide +kernel
theorem dL_law_492 : decode cL_law 492 = .ok (.aload_n 2, 1) := by decide +kernel
theorem dL_law_493 : decode cL_law 493 = .ok (.aload_n 0, 1) := by decide +kernel
theorem dL_law_494 : decode cL_law 494 = .ok (.iload_n 3, 1) := by decide +kernel
theorem dL_law_495 : decode cL_law 495 = .ok (.iconst 1, 1) := by decide +kernel
theorem dL_law_496 : decode cL_law 496 = .ok (.iadd, 1) := by decide +kernel
theorem dL_law_497 : decode cL_law 497 = .ok (.iaload, 1) := by decide +kernel
theorem dL_law_498 : decode cL_law 498 = .ok (.aload_n 0, 1) := by decide +kernel
theorem dL_law_499 : decode cL_law 499 = .ok (.iload_n 3, 1) := by decide +kernel
theorem dL_law_500 : decode cL_law 500 = .ok (.iconst 2, 1) := by decide +kernel
theorem dL_law_501 : decode cL_law 501 = .ok (.iadd, 1) := by decide +kernel
theorem dL_law_502 : decode cL_law 502 = .ok (.iaload, 1) := by decide +kernel
theorem dL_law_503 : decode cL_law 503 = .ok (.aload_n 0, 1) := by decide +kernel
theorem dL_law_504 : decode cL_law 504 = .ok (.iload_n 3, 1) := by decide +kernel
theorem dL_law_505 : decode cL_law 505 = .ok (.iconst 3, 1) := by decide +kernel
theorem dL_law_506 : decode cL_law 506 = .ok (.iadd, 1) := by decide +kernel
theorem dL_law_507 : decode cL_law 507 = .ok (.iaload, 1) := by decide +kernel
theorem dL_law_508 : decode cL_law 508 = .ok (.aload_n 0, 1) := by decide +kernel
theorem dL_law_509 : decode cL_law 509 = .ok (.iload_n 3, 1) := by decide +kernel
theorem dL_law_510 : decode cL_law 510 = .ok (.iconst 4, 1) := by decide +kernel
theorem dL_law_511 : decode cL_law 511 = .ok (.iadd, 1) := by decide +kernel
theorem dL_law_512 : decode cL_law 512 = .ok (.iaload, 1) := by decide +kernel
theorem dL_law_513 : decode cL_law 513 = .ok (.aload_n 0, 1) := by decide +kernel
theorem dL_law_514 : decode cL_law 514 = .ok (.iload_n 3, 1) := by decide +kernel
theorem dL_law_515 : decode cL_law 515 = .ok (.iconst 5, 1) := by decide +kernel
theorem dL_law_516 : decode cL_law 516 = .ok (.iadd, 1) := by decide +kernel
theorem dL_law_517 : decode cL_law 517 = .ok (.iaload, 1) := by decide +kernel
theorem dL_law_518 : decode cL_law 518 = .ok (.invokevirtual 48, 3) := by decide +kernel
theorem dL_law_521 : decode cL_law 521 = .ok (.if_icmp .eq 1558, 3) := by decide +kernel
theorem dL_law_524 : decode cL_law 524 = .ok (.iconst 0, 1) := by decide +kernel
theorem dL_law_525 : decode cL_law 525 = .ok (.ireturn, 1) := by decide +kernel
theorem dL_law_526 : decode cL_law 526 = .ok (.aload_n 1, 1) := by decide +kernel
theorem dL_law_527 : decode cL_law 527 = .ok (.aload_n 0, 1) := by decide +kernel
theorem dL_law_528 : decode cL_law 528 = .ok (.iload_n 3, 1) := by decide +kernel
theorem dL_law_529 : decode cL_law 529 = .ok (.iconst 1, 1) := by decide +kernel
theorem dL_law_530 : decode cL_law 530 = .ok (.iadd, 1) := by decide +kernel
theorem dL_law_531 : decode cL_law 531 = .ok (.iaload, 1) := by decide +kernel
theorem dL_law_532 : decode cL_law 532 = .ok (.aload_n 0, 1) := by decide +kernel
theorem dL_law_533 : decode cL_law 533 = .ok (.iload_n 3, 1) := by decide +kernel
theorem dL_law_534 : decode cL_law 534 = .ok (.iconst 2, 1) := by decide +kernel
theorem dL_law_535 : decode cL_law 535 = .ok (.iadd, 1) := by decide +kernel
theorem dL_law_536 : decode cL_law 536 = .ok (.iaload, 1) := by decide +kernel
theorem dL_law_537 : decode cL_law 537 = .ok (.aload_n 0, 1) := by decide +kernel
theorem dL_law_538 : decode cL_law 538 = .ok (.iload_n 3, 1) := by decide +kernel
theorem dL_law_539 : decode cL_law 539 = .ok (.iconst 3, 1) := by decide +kernel
theorem dL_law_540 : decode cL_law 540 = .ok (.iadd, 1) := by decide +kernel
theorem dL_law_541 : decode cL_law 541 = .ok (.iaload, 1) := by decide +kernel
theorem dL_law_542 : decode cL_law 542 = .ok (.aload_n 0, 1) := by decide +kernel
theorem dL_law_543 : decode cL_law 543 = .ok (.iload_n 3, 1) := by decide +kernel
theorem dL_law_544 : decode cL_law 544 = .ok (.iconst 4, 1) := by decide +kernel
theorem dL_law_545 : decode cL_law 545 = .ok (.iadd, 1) := by decide +kernel
theorem dL_law_546 : decode cL_law 546 = .ok (.iaload, 1) := by decide +kernel
theorem dL_law_547 : decode cL_law 547 = .ok (.aload_n 0, 1) := by decide +kernel
theorem dL_law_548 : decode cL_law 548 = .ok (.iload_n 3, 1) := by decide +kernel
theorem dL_law_549 : decode cL_law 549 = .ok (.iconst 5, 1) := by decide +kernel
theorem dL_law_550 : decode cL_law 550 = .ok (.iadd, 1) := by decide +kernel
theorem dL_law_551 : decode cL_law 551 = .ok (.iaload, 1) := by decide +kernel
theorem dL_law_552 : decode cL_law 552 = .ok (.invokevirtual 49, 3) := by decide +kernel
theorem dL_law_555 : decode cL_law 555 = .ok (.aload_n 2, 1) := by decide +kernel
theorem dL_law_556 : decode cL_law 556 = .ok (.aload_n 0, 1) := by decide +kernel
theorem dL_law_557 : decode cL_law 557 = .ok (.iload_n 3, 1) := by decide +kernel
theorem dL_law_558 : decode cL_law 558 = .ok (.iconst 1, 1) := by decide +kernel
theorem dL_law_559 : decode cL_law 559 = .ok (.iadd, 1) := by decide +kernel
theorem dL_law_560 : decode cL_law 560 = .ok (.iaload, 1) := by decide +kernel
theorem dL_law_561 : decode cL_law 561 = .ok (.aload_n 0, 1) := by decide +kernel
theorem dL_law_562 : decode cL_law 562 = .ok (.iload_n 3, 1) := by decide +kernel
theorem dL_law_563 : decode cL_law 563 = .ok (.iconst 2, 1) := by decide +kernel
theorem dL_law_564 : decode cL_law 564 = .ok (.iadd, 1) := by decide +kernel
theorem dL_law_565 : decode cL_law 565 = .ok (.iaload, 1) := by decide +kernel
theorem dL_law_566 : decode cL_law 566 = .ok (.aload_n 0, 1) := by decide +kernel
theorem dL_law_567 : decode cL_law 567 = .ok (.iload_n 3, 1) := by decide +kernel
theorem dL_law_568 : decode cL_law 568 = .ok (.iconst 3, 1) := by decide +kernel
theorem dL_law_569 : decode cL_law 569 = .ok (.iadd, 1) := by decide +kernel
theorem dL_law_570 : decode cL_law 570 = .ok (.iaload, 1) := by decide +kernel
theorem dL_law_571 : decode cL_law 571 = .ok (.aload_n 0, 1) := by decide +kernel
theorem dL_law_572 : decode cL_law 572 = .ok (.iload_n 3, 1) := by decide +kernel
theorem dL_law_573 : decode cL_law 573 = .ok (.iconst 4, 1) := by decide +kernel
theorem dL_law_574 : decode cL_law 574 = .ok (.iadd, 1) := by decide +kernel
theorem dL_law_575 : decode cL_law 575 = .ok (.iaload, 1) := by decide +kernel
theorem dL_law_576 : decode cL_law 576 = .ok (.aload_n 0, 1) := by decide +kernel
theorem dL_law_577 : decode cL_law 577 = .ok (.iload_n 3, 1) := by decide +kernel
theorem dL_law_578 : decode cL_law 578 = .ok (.iconst 5, 1) := by decide +kernel
theorem dL_law_579 : decode cL_law 579 = .ok (.iadd, 1) := by decide +kernel
theorem dL_law_580 : decode cL_law 580 = .ok (.iaload, 1) := by decide +kernel
theorem dL_law_581 : decode cL_law 581 = .ok (.invokevirtual 53, 3) := by decide +kernel
theorem dL_law_584 : decode cL_law 584 = .ok (.if_icmp .eq 1495, 3) := by decide +kernel
theorem dL_law_587 : decode cL_law 587 = .ok (.iconst 0, 1) := by decide +kernel
theorem dL_law_588 : decode cL_law 588 = .ok (.ireturn, 1) := by decide +kernel
theorem dL_law_589 : decode cL_law 589 = .ok (.aload_n 1, 1) := by decide +kernel
theorem dL_law_590 : decode cL_law 590 = .ok (.aload_n 0, 1) := by decide +kernel
theorem dL_law_591 : decode cL_law 591 = .ok (.iload_n 3, 1) := by decide +kernel
theorem dL_law_592 : decode cL_law 592 = .ok (.iconst 1, 1) := by decide +kernel
theorem dL_law_593 : decode cL_law 593 = .ok (.iadd, 1) := by decide +kernel
theorem dL_law_594 : decode cL_law 594 = .ok (.iaload, 1) := by decide +kernel
theorem dL_law_595 : decode cL_law 595 = .ok (.invokevirtual 54, 3) := by decide +kernel
theorem dL_law_598 : decode cL_law 598 = .ok (.aload_n 2, 1) := by decide +kernel
theorem dL_law_599 : decode cL_law 599 = .ok (.aload_n 0, 1) := by decide +kernel
theorem dL_law_600 : decode cL_law 600 = .ok (.iload_n 3, 1) := by decide +kernel
theorem dL_law_601 : decode cL_law 601 = .ok (.iconst 1, 1) := by decide +kernel
theorem dL_law_602 : decode cL_law 602 = .ok (.iadd, 1) := by decide +kernel
theorem dL_law_603 : decode cL_law 603 = .ok (.iaload, 1) := by decide +kernel
theorem dL_law_604 : decode cL_law 604 = .ok (.invokevirtual 58, 3) := by decide +kernel
theorem dL_law_607 : decode cL_law 607 = .ok (.if_icmp .eq 1472, 3) := by decide +kernel
theorem dL_law_610 : decode cL_law 610 = .ok (.iconst 0, 1) := by decide +kernel
theorem dL_law_611 : decode cL_law 611 = .ok (.ireturn, 1) := by decide +kernel
theorem dL_law_612 : decode cL_law 612 = .ok (.aload_n 1, 1) := by decide +kernel
theorem dL_law_613 : decode cL_law 613 = .ok (.aload_n 0, 1) := by decide +kernel
theorem dL_law_614 : decode cL_law 614 = .ok (.iload_n 3, 1) := by decide +kernel
theorem dL_law_615 : decode cL_law 615 = .ok (.iconst 1, 1) := by decide +kernel
theorem dL_law_616 : decode cL_law 616 = .ok (.iadd, 1) := by decide +kernel
theorem dL_law_617 : decode cL_law 617 = .ok (.iaload, 1) := by decide +kernel
theorem dL_law_618 : decode cL_law 618 = .ok (.invokevirtual 59, 3) := by decide +kernel
theorem dL_law_621 : decode cL_law 621 = .ok (.aload_n 2, 1) := by decide +kernel
theorem dL_law_622 : decode cL_law 622 = .ok (.aload_n 0, 1) := by decide +kernel
theorem dL_law_623 : decode cL_law 623 = .ok (.iload_n 3, 1) := by decide +kernel
theorem dL_law_624 : decode cL_law 624 = .ok (.iconst 1, 1) := by decide +kernel
theorem dL_law_625 : decode cL_law 625 = .ok (.iadd, 1) := by decide +kernel
theorem dL_law_626 : decode cL_law 626 = .ok (.iaload, 1) := by decide +kernel
theorem dL_law_627 : decode cL_law 627 = .ok (.invokevirtual 62, 3) := by decide +kernel
theorem dL_law_630 : decode cL_law 630 = .ok (.if_icmp .eq 1449, 3) := by decide +kernel
theorem dL_law_633 : decode cL_law 633 = .ok (.iconst 0, 1) := by decide +kernel
theorem dL_law_634 : decode cL_law 634 = .ok (.ireturn, 1) := by decide +kernel
theorem dL_law_635 : decode cL_law 635 = .ok (.aload_n 1, 1) := by decide +kernel
theorem dL_law_636 : decode cL_law 636 = .ok (.aload_n 0, 1) := by decide +kernel
theorem dL_law_637 : decode cL_law 637 = .ok (.iload_n 3, 1) := by decide +kernel
theorem dL_law_638 : decode cL_law 638 = .ok (.iconst 1, 1) := by decide +kernel
theorem dL_law_639 : decode cL_law 639 = .ok (.iadd, 1) := by decide +kernel
theorem dL_law_640 : decode cL_law 640 = .ok (.iaload, 1) := by decide +kernel
theorem dL_law_641 : decode cL_law 641 = .ok (.invokevirtual 63, 3) := by decide +kernel
theorem dL_law_644 : decode cL_law 644 = .ok (.aload_n 2, 1) := by decide +kernel
theorem dL_law_645 : decode cL_law 645 = .ok (.aload_n 0, 1) := by decide +kernel
theorem dL_law_646 : decode cL_law 646 = .ok (.iload_n 3, 1) := by decide +kernel
theorem dL_law_647 : decode cL_law 647 = .ok (.iconst 1, 1) := by decide +kernel
theorem dL_law_648 : decode cL_law 648 = .ok (.iadd, 1) := by decide +kernel
theorem dL_law_649 : decode cL_law 649 = .ok (.iaload, 1) := by decide +kernel
theorem dL_law_650 : decode cL_law 650 = .ok (.invokevirtual 66, 3) := by decide +kernel
theorem dL_law_653 : decode cL_law 653 = .ok (.if_icmp .eq 1426, 3) := by decide +kernel
theorem dL_law_656 : decode cL_law 656 = .ok (.iconst 0, 1) := by decide +kernel
theorem dL_law_657 : decode cL_law 657 = .ok (.ireturn, 1) := by decide +kernel
theorem dL_law_658 : decode cL_law 658 = .ok (.aload_n 1, 1) := by decide +kernel
theorem dL_law_659 : decode cL_law 659 = .ok (.aload_n 0, 1) := by decide +kernel
theorem dL_law_660 : decode cL_law 660 = .ok (.iload_n 3, 1) := by decide +kernel
theorem dL_law_661 : decode cL_law 661 = .ok (.iconst 1, 1) := by decide +kernel
theorem dL_law_662 : decode cL_law 662 = .ok (.iadd, 1) := by decide +kernel
theorem dL_law_663 : decode cL_law 663 = .ok (.iaload, 1) := by decide +kernel
theorem dL_law_664 : decode cL_law 664 = .ok (.invokevirtual 67, 3) := by decide +kernel
theorem dL_law_667 : decode cL_law 667 = .ok (.aload_n 2, 1) := by decide +kernel
theorem dL_law_668 : decode cL_law 668 = .ok (.aload_n 0, 1) := by decide +kernel
theorem dL_law_669 : decode cL_law 669 = .ok (.iload_n 3, 1) := by decide +kernel
theorem dL_law_670 : decode cL_law 670 = .ok (.iconst 1, 1) := by decide +kernel
theorem dL_law_671 : decode cL_law 671 = .ok (.iadd, 1) := by decide +kernel
theorem dL_law_672 : decode cL_law 672 = .ok (.iaload, 1) := by decide +kernel
theorem dL_law_673 : decode cL_law 673 = .ok (.invokevirtual 70, 3) := by decide +kernel
theorem dL_law_676 : decode cL_law 676 = .ok (.if_icmp .eq 1403, 3) := by decide +kernel
theorem dL_law_679 : decode cL_law 679 = .ok (.iconst 0, 1) := by decide +kernel
theorem dL_law_680 : decode cL_law 680 = .ok (.ireturn, 1) := by decide +kernel
theorem dL_law_681 : decode cL_law 681 = .ok (.aload_n 1, 1) := by decide +kernel
theorem dL_law_682 : decode cL_law 682 = .ok (.aload_n 0, 1) := by decide +kernel
theorem dL_law_683 : decode cL_law 683 = .ok (.iload_n 3, 1) := by decide +kernel
theorem dL_law_684 : decode cL_law 684 = .ok (.iconst 1, 1) := by decide +kernel
theorem dL_law_685 : decode cL_law 685 = .ok (.iadd, 1) := by decide +kernel
theorem dL_law_686 : decode cL_law 686 = .ok (.iaload, 1) := by decide +kernel
theorem dL_law_687 : decode cL_law 687 = .ok (.aload_n 0, 1) := by decide +kernel
theorem dL_law_688 : decode cL_law 688 = .ok (.iload_n 3, 1) := by decide +kernel
theorem dL_law_689 : decode cL_law 689 = .ok (.iconst 2, 1) := by decide +kernel
theorem dL_law_690 : decode cL_law 690 = .ok (.iadd, 1) := by decide +kernel
theorem dL_law_691 : decode cL_law 691 = .ok (.iaload, 1) := by decide +kernel
theorem dL_law_692 : decode cL_law 692 = .ok (.invokevirtual 71, 3) := by decide +kernel
theorem dL_law_695 : decode cL_law 695 = .ok (.aload_n 2, 1) := by decide +kernel
theorem dL_law_696 : decode cL_law 696 = .ok (.aload_n 0, 1) := by decide +kernel
theorem dL_law_697 : decode cL_law 697 = .ok (.iload_n 3, 1) := by decide +kernel
theorem dL_law_698 : decode cL_law 698 = .ok (.iconst 1, 1) := by decide +kernel
theorem dL_law_699 : decode cL_law 699 = .ok (.iadd, 1) := by decide +kernel
theorem dL_law_700 : decode cL_law 700 = .ok (.iaload, 1) := by decide +kernel
theorem dL_law_701 : decode cL_law 701 = .ok (.aload_n 0, 1) := by decide +kernel
theorem dL_law_702 : decode cL_law 702 = .ok (.iload_n 3, 1) := by decide +kernel
theorem dL_law_703 : decode cL_law 703 = .ok (.iconst 2, 1) := by decide +kernel
theorem dL_law_704 : decode cL_law 704 = .ok (.iadd, 1) := by decide +kernel
theorem dL_law_705 : decode cL_law 705 = .ok (.iaload, 1) := by decide +kernel
theorem dL_law_706 : decode cL_law 706 = .ok (.invokevirtual 75, 3) := by decide +kernel
theorem dL_law_709 : decode cL_law 709 = .ok (.if_icmp .eq 1370, 3) := by decide +kernel
theorem dL_law_712 : decode cL_law 712 = .ok (.iconst 0, 1) := by decide +kernel
theorem dL_law_713 : decode cL_law 713 = .ok (.ireturn, 1) := by decide +kernel
theorem dL_law_714 : decode cL_law 714 = .ok (.aload_n 1, 1) := by decide +kernel
theorem dL_law_715 : decode cL_law 715 = .ok (.aload_n 0, 1) := by decide +kernel
theorem dL_law_716 : decode cL_law 716 = .ok (.iload_n 3, 1) := by decide +kernel
theorem dL_law_717 : decode cL_law 717 = .ok (.iconst 1, 1) := by decide +kernel
theorem dL_law_718 : decode cL_law 718 = .ok (.iadd, 1) := by decide +kernel
theorem dL_law_719 : decode cL_law 719 = .ok (.iaload, 1) := by decide +kernel
theorem dL_law_720 : decode cL_law 720 = .ok (.invokevirtual 76, 3) := by decide +kernel
theorem dL_law_723 : decode cL_law 723 = .ok (.aload_n 2, 1) := by decide +kernel
theorem dL_law_724 : decode cL_law 724 = .ok (.aload_n 0, 1) := by decide +kernel
theorem dL_law_725 : decode cL_law 725 = .ok (.iload_n 3, 1) := by decide +kernel
theorem dL_law_726 : decode cL_law 726 = .ok (.iconst 1, 1) := by decide +kernel
theorem dL_law_727 : decode cL_law 727 = .ok (.iadd, 1) := by decide +kernel
theorem dL_law_728 : decode cL_law 728 = .ok (.iaload, 1) := by decide +kernel
theorem dL_law_729 : decode cL_law 729 = .ok (.invokevirtual 79, 3) := by decide +kernel
theorem dL_law_732 : decode cL_law 732 = .ok (.if_icmp .eq 1347, 3) := by decide +kernel
theorem dL_law_735 : decode cL_law 735 = .ok (.iconst 0, 1) := by decide +kernel
theorem dL_law_736 : decode cL_law 736 = .ok (.ireturn, 1) := by decide +kernel
theorem dL_law_737 : decode cL_law 737 = .ok (.aload_n 1, 1) := by decide +kernel
theorem dL_law_738 : decode cL_law 738 = .ok (.aload_n 0, 1) := by decide +kernel
theorem dL_law_739 : decode cL_law 739 = .ok (.iload_n 3, 1) := by decide +kernel
theorem dL_law_740 : decode cL_law 740 = .ok (.iconst 1, 1) := by decide +kernel
theorem dL_law_741 : decode cL_law 741 = .ok (.iadd, 1) := by decide +kernel
theorem dL_law_742 : decode cL_law 742 = .ok (.iaload, 1) := by decide +kernel
theorem dL_law_743 : decode cL_law 743 = .ok (.aload_n 0, 1) := by decide +kernel
theorem dL_law_744 : decode cL_law 744 = .ok (.iload_n 3, 1) := by decide +kernel
theorem dL_law_745 : decode cL_law 745 = .ok (.iconst 2, 1) := by decide +kernel
theorem dL_law_746 : decode cL_law 746 = .ok (.iadd, 1) := by decide +kernel
theorem dL_law_747 : decode cL_law 747 = .ok (.iaload, 1) := by decide +kernel
theorem dL_law_748 : decode cL_law 748 = .ok (.invokevirtual 80, 3) := by decide +kernel
theorem dL_law_751 : decode cL_law 751 = .ok (.aload_n 2, 1) := by decide +kernel
theorem dL_law_752 : decode cL_law 752 = .ok (.aload_n 0, 1) := by decide +kernel
theorem dL_law_753 : decode cL_law 753 = .ok (.iload_n 3, 1) := by decide +kernel
theorem dL_law_754 : decode cL_law 754 = .ok (.iconst 1, 1) := by decide +kernel
theorem dL_law_755 : decode cL_law 755 = .ok (.iadd, 1) := by decide +kernel
theorem dL_law_756 : decode cL_law 756 = .ok (.iaload, 1) := by decide +kernel
theorem dL_law_757 : decode cL_law 757 = .ok (.aload_n 0, 1) := by decide +kernel
theorem dL_law_758 : decode cL_law 758 = .ok (.iload_n 3, 1) := by decide +kernel
theorem dL_law_759 : decode cL_law 759 = .ok (.iconst 2, 1) := by decide +kernel
theorem dL_law_760 : decode cL_law 760 = .ok (.iadd, 1) := by decide +kernel
theorem dL_law_761 : decode cL_law 761 = .ok (.iaload, 1) := by decide +kernel
theorem dL_law_762 : decode cL_law 762 = .ok (.invokevirtual 83, 3) := by decide +kernel
theorem dL_law_765 : decode cL_law 765 = .ok (.if_icmp .eq 1314, 3) := by decide +kernel
theorem dL_law_768 : decode cL_law 768 = .ok (.iconst 0, 1) := by decide +kernel
theorem dL_law_769 : decode cL_law 769 = .ok (.ireturn, 1) := by decide +kernel
theorem dL_law_770 : decode cL_law 770 = .ok (.aload_n 1, 1) := by decide +kernel
theorem dL_law_771 : decode cL_law 771 = .ok (.aload_n 0, 1) := by decide +kernel
theorem dL_law_772 : decode cL_law 772 = .ok (.iload_n 3, 1) := by decide +kernel
theorem dL_law_773 : decode cL_law 773 = .ok (.iconst 1, 1) := by decide +kernel
theorem dL_law_774 : decode cL_law 774 = .ok (.iadd, 1) := by decide +kernel
theorem dL_law_775 : decode cL_law 775 = .ok (.iaload, 1) := by decide +kernel
theorem dL_law_776 : decode cL_law 776 = .ok (.aload_n 0, 1) := by decide +kernel
theorem dL_law_777 : decode cL_law 777 = .ok (.iload_n 3, 1) := by decide +kernel
theorem dL_law_778 : decode cL_law 778 = .ok (.iconst 2, 1) := by decide +kernel
theorem dL_law_779 : decode cL_law 779 = .ok (.iadd, 1) := by decide +kernel
theorem dL_law_780 : decode cL_law 780 = .ok (.iaload, 1) := by decide +kernel
theorem dL_law_781 : decode cL_law 781 = .ok (.invokevirtual 84, 3) := by decide +kernel
theorem dL_law_784 : decode cL_law 784 = .ok (.aload_n 2, 1) := by decide +kernel
theorem dL_law_785 : decode cL_law 785 = .ok (.aload_n 0, 1) := by decide +kernel
theorem dL_law_786 : decode cL_law 786 = .ok (.iload_n 3, 1) := by decide +kernel
theorem dL_law_787 : decode cL_law 787 = .ok (.iconst 1, 1) := by decide +kernel
theorem dL_law_788 : decode cL_law 788 = .ok (.iadd, 1) := by decide +kernel
theorem dL_law_789 : decode cL_law 789 = .ok (.iaload, 1) := by decide +kernel
theorem dL_law_790 : decode cL_law 790 = .ok (.aload_n 0, 1) := by decide +kernel
theorem dL_law_791 : decode cL_law 791 = .ok (.iload_n 3, 1) := by decide +kernel
theorem dL_law_792 : decode cL_law 792 = .ok (.iconst 2, 1) := by decide +kernel
theorem dL_law_793 : decode cL_law 793 = .ok (.iadd, 1) := by decide +kernel
theorem dL_law_794 : decode cL_law 794 = .ok (.iaload, 1) := by decide +kernel
theorem dL_law_795 : decode cL_law 795 = .ok (.invokevirtual 87, 3) := by decide +kernel
theorem dL_law_798 : decode cL_law 798 = .ok (.if_icmp .eq 1281, 3) := by decide +kernel
theorem dL_law_801 : decode cL_law 801 = .ok (.iconst 0, 1) := by decide +kernel
theorem dL_law_802 : decode cL_law 802 = .ok (.ireturn, 1) := by decide +kernel
theorem dL_law_803 : decode cL_law 803 = .ok (.aload_n 1, 1) := by decide +kernel
theorem dL_law_804 : decode cL_law 804 = .ok (.aload_n 0, 1) := by decide +kernel
theorem dL_law_805 : decode cL_law 805 = .ok (.iload_n 3, 1) := by decide +kernel
theorem dL_law_806 : decode cL_law 806 = .ok (.iconst 1, 1) := by decide +kernel
theorem dL_law_807 : decode cL_law 807 = .ok (.iadd, 1) := by decide +kernel
theorem dL_law_808 : decode cL_law 808 = .ok (.iaload, 1) := by decide +kernel
theorem dL_law_809 : decode cL_law 809 = .ok (.aload_n 0, 1) := by decide +kernel
theorem dL_law_810 : decode cL_law 810 = .ok (.iload_n 3, 1) := by decide +kernel
theorem dL_law_811 : decode cL_law 811 = .ok (.iconst 2, 1) := by decide +kernel
theorem dL_law_812 : decode cL_law 812 = .ok (.iadd, 1) := by decide +kernel
theorem dL_law_813 : decode cL_law 813 = .ok (.iaload, 1) := by decide +kernel
theorem dL_law_814 : decode cL_law 814 = .ok (.invokevirtual 88, 3) := by decide +kernel
theorem dL_law_817 : decode cL_law 817 = .ok (.aload_n 2, 1) := by decide +kernel
theorem dL_law_818 : decode cL_law 818 = .ok (.aload_n 0, 1) := by decide +kernel
theorem dL_law_819 : decode cL_law 819 = .ok (.iload_n 3, 1) := by decide +kernel
theorem dL_law_820 : decode cL_law 820 = .ok (.iconst 1, 1) := by decide +kernel
theorem dL_law_821 : decode cL_law 821 = .ok (.iadd, 1) := by decide +kernel
theorem dL_law_822 : decode cL_law 822 = .ok (.iaload, 1) := by decide +kernel
theorem dL_law_823 : decode cL_law 823 = .ok (.aload_n 0, 1) := by decide +kernel
theorem dL_law_824 : decode cL_law 824 = .ok (.iload_n 3, 1) := by decide +kernel
theorem dL_law_825 : decode cL_law 825 = .ok (.iconst 2, 1) := by decide +kernel
theorem dL_law_826 : decode cL_law 826 = .ok (.iadd, 1) := by decide +kernel
theorem dL_law_827 : decode cL_law 827 = .ok (.iaload, 1) := by decide +kernel
theorem dL_law_828 : decode cL_law 828 = .ok (.invokevirtual 91, 3) := by decide +kernel
theorem dL_law_831 : decode cL_law 831 = .ok (.if_icmp .eq 1248, 3) := by decide +kernel
theorem dL_law_834 : decode cL_law 834 = .ok (.iconst 0, 1) := by decide +kernel
theorem dL_law_835 : decode cL_law 835 = .ok (.ireturn, 1) := by decide +kernel
theorem dL_law_836 : decode cL_law 836 = .ok (.aload_n 1, 1) := by decide +kernel
theorem dL_law_837 : decode cL_law 837 = .ok (.aload_n 0, 1) := by decide +kernel
theorem dL_law_838 : decode cL_law 838 = .ok (.iload_n 3, 1) := by decide +kernel
theorem dL_law_839 : decode cL_law 839 = .ok (.iconst 1, 1) := by decide +kernel
theorem dL_law_840 : decode cL_law 840 = .ok (.iadd, 1) := by decide +kernel
theorem dL_law_841 : decode cL_law 841 = .ok (.iaload, 1) := by decide +kernel
theorem dL_law_842 : decode cL_law 842 = .ok (.aload_n 0, 1) := by decide +kernel
theorem dL_law_843 : decode cL_law 843 = .ok (.iload_n 3, 1) := by decide +kernel
theorem dL_law_844 : decode cL_law 844 = .ok (.iconst 2, 1) := by decide +kernel
theorem dL_law_845 : decode cL_law 845 = .ok (.iadd, 1) := by decide +kernel
theorem dL_law_846 : decode cL_law 846 = .ok (.iaload, 1) := by decide +kernel
theorem dL_law_847 : decode cL_law 847 = .ok (.aload_n 0, 1) := by decide +kernel
theorem dL_law_848 : decode cL_law 848 = .ok (.iload_n 3, 1) := by decide +kernel
theorem dL_law_849 : decode cL_law 849 = .ok (.iconst 3, 1) := by decide +kernel
theorem dL_law_850 : decode cL_law 850 = .ok (.iadd, 1) := by decide +kernel
theorem dL_law_851 : decode cL_law 851 = .ok (.iaload, 1) := by decide +kernel
theorem dL_law_852 : decode cL_law 852 = .ok (.invokevirtual 92, 3) := by decide +kernel
theorem dL_law_855 : decode cL_law 855 = .ok (.aload_n 2, 1) := by decide +kernel
theorem dL_law_856 : decode cL_law 856 = .ok (.aload_n 0, 1) := by decide +kernel
theorem dL_law_857 : decode cL_law 857 = .ok (.iload_n 3, 1) := by decide +kernel
theorem dL_law_858 : decode cL_law 858 = .ok (.iconst 1, 1) := by decide +kernel
theorem dL_law_859 : decode cL_law 859 = .ok (.iadd, 1) := by decide +kernel
theorem dL_law_860 : decode cL_law 860 = .ok (.iaload, 1) := by decide +kernel
theorem dL_law_861 : decode cL_law 861 = .ok (.aload_n 0, 1) := by decide +kernel
theorem dL_law_862 : decode cL_law 862 = .ok (.iload_n 3, 1) := by decide +kernel
theorem dL_law_863 : decode cL_law 863 = .ok (.iconst 2, 1) := by decide +kernel
theorem dL_law_864 : decode cL_law 864 = .ok (.iadd, 1) := by decide +kernel
theorem dL_law_865 : decode cL_law 865 = .ok (.iaload, 1) := by decide +kernel
theorem dL_law_866 : decode cL_law 866 = .ok (.aload_n 0, 1) := by decide +kernel
theorem dL_law_867 : decode cL_law 867 = .ok (.iload_n 3, 1) := by decide +kernel
theorem dL_law_868 : decode cL_law 868 = .ok (.iconst 3, 1) := by decide +kernel
theorem dL_law_869 : decode cL_law 869 = .ok (.iadd, 1) := by decide +kernel
theorem dL_law_870 : decode cL_law 870 = .ok (.iaload, 1) := by decide +kernel
theorem dL_law_871 : decode cL_law 871 = .ok (.invokevirtual 96, 3) := by decide +kernel
theorem dL_law_874 : decode cL_law 874 = .ok (.if_icmp .eq 1205, 3) := by decide +kernel
theorem dL_law_877 : decode cL_law 877 = .ok (.iconst 0, 1) := by decide +kernel
theorem dL_law_878 : decode cL_law 878 = .ok (.ireturn, 1) := by decide +kernel
theorem dL_law_879 : decode cL_law 879 = .ok (.aload_n 1, 1) := by decide +kernel
theorem dL_law_880 : decode cL_law 880 = .ok (.aload_n 0, 1) := by decide +kernel
theorem dL_law_881 : decode cL_law 881 = .ok (.iload_n 3, 1) := by decide +kernel
theorem dL_law_882 : decode cL_law 882 = .ok (.iconst 1, 1) := by decide +kernel
theorem dL_law_883 : decode cL_law 883 = .ok (.iadd, 1) := by decide +kernel
theorem dL_law_884 : decode cL_law 884 = .ok (.iaload, 1) := by decide +kernel
theorem dL_law_885 : decode cL_law 885 = .ok (.aload_n 0, 1) := by decide +kernel
theorem dL_law_886 : decode cL_law 886 = .ok (.iload_n 3, 1) := by decide +kernel
theorem dL_law_887 : decode cL_law 887 = .ok (.iconst 2, 1) := by decide +kernel
theorem dL_law_888 : decode cL_law 888 = .ok (.iadd, 1) := by decide +kernel
theorem dL_law_889 : decode cL_law 889 = .ok (.iaload, 1) := by decide +kernel
theorem dL_law_890 : decode cL_law 890 = .ok (.invokevirtual 97, 3) := by decide +kernel
theorem dL_law_893 : decode cL_law 893 = .ok (.aload_n 2, 1) := by decide +kernel
theorem dL_law_894 : decode cL_law 894 = .ok (.aload_n 0, 1) := by decide +kernel
theorem dL_law_895 : decode cL_law 895 = .ok (.iload_n 3, 1) := by decide +kernel
theorem dL_law_896 : decode cL_law 896 = .ok (.iconst 1, 1) := by decide +kernel
theorem dL_law_897 : decode cL_law 897 = .ok (.iadd, 1) := by decide +kernel
theorem dL_law_898 : decode cL_law 898 = .ok (.iaload, 1) := by decide +kernel
theorem dL_law_899 : decode cL_law 899 = .ok (.aload_n 0, 1) := by decide +kernel
theorem dL_law_900 : decode cL_law 900 = .ok (.iload_n 3, 1) := by decide +kernel
theorem dL_law_901 : decode cL_law 901 = .ok (.iconst 2, 1) := by decide +kernel
theorem dL_law_902 : decode cL_law 902 = .ok (.iadd, 1) := by decide +kernel
theorem dL_law_903 : decode cL_law 903 = .ok (.iaload, 1) := by decide +kernel
theorem dL_law_904 : decode cL_law 904 = .ok (.invokevirtual 100, 3) := by decide +kernel
theorem dL_law_907 : decode cL_law 907 = .ok (.if_icmp .eq 1172, 3) := by decide +kernel
theorem dL_law_910 : decode cL_law 910 = .ok (.iconst 0, 1) := by decide +kernel
theorem dL_law_911 : decode cL_law 911 = .ok (.ireturn, 1) := by decide +kernel
theorem dL_law_912 : decode cL_law 912 = .ok (.aload_n 1, 1) := by decide +kernel
theorem dL_law_913 : decode cL_law 913 = .ok (.aload_n 0, 1) := by decide +kernel
theorem dL_law_914 : decode cL_law 914 = .ok (.iload_n 3, 1) := by decide +kernel
theorem dL_law_915 : decode cL_law 915 = .ok (.iconst 1, 1) := by decide +kernel
theorem dL_law_916 : decode cL_law 916 = .ok (.iadd, 1) := by decide +kernel
theorem dL_law_917 : decode cL_law 917 = .ok (.iaload, 1) := by decide +kernel
theorem dL_law_918 : decode cL_law 918 = .ok (.aload_n 0, 1) := by decide +kernel
theorem dL_law_919 : decode cL_law 919 = .ok (.iload_n 3, 1) := by decide +kernel
theorem dL_law_920 : decode cL_law 920 = .ok (.iconst 2, 1) := by decide +kernel
theorem dL_law_921 : decode cL_law 921 = .ok (.iadd, 1) := by decide +kernel
theorem dL_law_922 : decode cL_law 922 = .ok (.iaload, 1) := by decide +kernel
theorem dL_law_923 : decode cL_law 923 = .ok (.invokevirtual 101, 3) := by decide +kernel
theorem dL_law_926 : decode cL_law 926 = .ok (.aload_n 2, 1) := by decide +kernel
theorem dL_law_927 : decode cL_law 927 = .ok (.aload_n 0, 1) := by decide +kernel
theorem dL_law_928 : decode cL_law 928 = .ok (.iload_n 3, 1) := by decide +kernel
theorem dL_law_929 : decode cL_law 929 = .ok (.iconst 1, 1) := by decide +kernel
theorem dL_law_930 : decode cL_law 930 = .ok (.iadd, 1) := by decide +kernel
theorem dL_law_931 : decode cL_law 931 = .ok (.iaload, 1) := by decide +kernel
theorem dL_law_932 : decode cL_law 932 = .ok (.aload_n 0, 1) := by decide +kernel
theorem dL_law_933 : decode cL_law 933 = .ok (.iload_n 3, 1) := by decide +kernel
theorem dL_law_934 : decode cL_law 934 = .ok (.iconst 2, 1) := by decide +kernel
theorem dL_law_935 : decode cL_law 935 = .ok (.iadd, 1) := by decide +kernel
theorem dL_law_936 : decode cL_law 936 = .ok (.iaload, 1) := by decide +kernel
theorem dL_law_937 : decode cL_law 937 = .ok (.invokevirtual 104, 3) := by decide +kernel
theorem dL_law_940 : decode cL_law 940 = .ok (.if_icmp .eq 1139, 3) := by decide +kernel
theorem dL_law_943 : decode cL_law 943 = .ok (.iconst 0, 1) := by decide +kernel
theorem dL_law_944 : decode cL_law 944 = .ok (.ireturn, 1) := by decide +kernel
theorem dL_law_945 : decode cL_law 945 = .ok (.aload_n 1, 1) := by decide +kernel
theorem dL_law_946 : decode cL_law 946 = .ok (.aload_n 0, 1) := by decide +kernel
theorem dL_law_947 : decode cL_law 947 = .ok (.iload_n 3, 1) := by decide +kernel
theorem dL_law_948 : decode cL_law 948 = .ok (.iconst 1, 1) := by decide +kernel
theorem dL_law_949 : decode cL_law 949 = .ok (.iadd, 1) := by decide +kernel
theorem dL_law_950 : decode cL_law 950 = .ok (.iaload, 1) := by decide +kernel
theorem dL_law_951 : decode cL_law 951 = .ok (.invokevirtual 105, 3) := by decide +kernel
theorem dL_law_954 : decode cL_law 954 = .ok (.aload_n 2, 1) := by decide +kernel
theorem dL_law_955 : decode cL_law 955 = .ok (.aload_n 0, 1) := by decide +kernel
theorem dL_law_956 : decode cL_law 956 = .ok (.iload_n 3, 1) := by decide +kernel
theorem dL_law_957 : decode cL_law 957 = .ok (.iconst 1, 1) := by decide +kernel
theorem dL_law_958 : decode cL_law 958 = .ok (.iadd, 1) := by decide +kernel
theorem dL_law_959 : decode cL_law 959 = .ok (.iaload, 1) := by decide +kernel
theorem dL_law_960 : decode cL_law 960 = .ok (.invokevirtual 108, 3) := by decide +kernel
theorem dL_law_963 : decode cL_law 963 = .ok (.if_icmp .eq 1116, 3) := by decide +kernel
theorem dL_law_966 : decode cL_law 966 = .ok (.iconst 0, 1) := by decide +kernel
theorem dL_law_967 : decode cL_law 967 = .ok (.ireturn, 1) := by decide +kernel
theorem dL_law_968 : decode cL_law 968 = .ok (.aload_n 1, 1) := by decide +kernel
theorem dL_law_969 : decode cL_law 969 = .ok (.aload_n 0, 1) := by decide +kernel
theorem dL_law_970 : decode cL_law 970 = .ok (.iload_n 3, 1) := by decide +kernel
theorem dL_law_971 : decode cL_law 971 = .ok (.iconst 1, 1) := by decide +kernel
theorem dL_law_972 : decode cL_law 972 = .ok (.iadd, 1) := by decide +kernel
theorem dL_law_973 : decode cL_law 973 = .ok (.iaload, 1) := by decide +kernel
theorem dL_law_974 : decode cL_law 974 = .ok (.aload_n 0, 1) := by decide +kernel
theorem dL_law_975 : decode cL_law 975 = .ok (.iload_n 3, 1) := by decide +kernel
theorem dL_law_976 : decode cL_law 976 = .ok (.iconst 2, 1) := by decide +kernel
theorem dL_law_977 : decode cL_law 977 = .ok (.iadd, 1) := by decide +kernel
theorem dL_law_978 : decode cL_law 978 = .ok (.iaload, 1) := by decide +kernel
theorem dL_law_979 : decode cL_law 979 = .ok (.aload_n 0, 1) := by decide +kernel
theorem dL_law_980 : decode cL_law 980 = .ok (.iload_n 3, 1) := by decide +kernel
theorem dL_law_981 : decode cL_law 981 = .ok (.iconst 3, 1) := by decide +kernel
theorem dL_law_982 : decode cL_law 982 = .ok (.iadd, 1) := by decide +kernel
theorem dL_law_983 : decode cL_law 983 = .ok (.iaload, 1) := by decide +kernel
theorem dL_law_984 : decode cL_law 984 = .ok (.ifCond .eq 7, 3) := by decide +kernel
theorem dL_law_987 : decode cL_law 987 = .ok (.iconst 1, 1) := by decide +kernel
theorem dL_law_988 : decode cL_law 988 = .ok (.goto 4, 3) := by decide +kernel
theorem dL_law_991 : decode cL_law 991 = .ok (.iconst 0, 1) := by decide +kernel
theorem dL_law_992 : decode cL_law 992 = .ok (.invokevirtual 109, 3) := by decide +kernel
theorem dL_law_995 : decode cL_law 995 = .ok (.aload_n 2, 1) := by decide +kernel
theorem dL_law_996 : decode cL_law 996 = .ok (.aload_n 0, 1) := by decide +kernel
theorem dL_law_997 : decode cL_law 997 = .ok (.iload_n 3, 1) := by decide +kernel
theorem dL_law_998 : decode cL_law 998 = .ok (.iconst 1, 1) := by decide +kernel
theorem dL_law_999 : decode cL_law 999 = .ok (.iadd, 1) := by decide +kernel
theorem dL_law_1000 : decode cL_law 1000 = .ok (.iaload, 1) := by decide +kernel
theorem dL_law_1001 : decode cL_law 1001 = .ok (.aload_n 0, 1) := by decide +kernel
theorem dL_law_1002 : decode cL_law 1002 = .ok (.iload_n 3, 1) := by decide +kernel
theorem dL_law_1003 : decode cL_law 1003 = .ok (.iconst 2, 1) := by decide +kernel
theorem dL_law_1004 : decode cL_law 1004 = .ok (.iadd, 1) := by decide +kernel
theorem dL_law_1005 : decode cL_law 1005 = .ok (.iaload, 1) := by decide +kernel
theorem dL_law_1006 : decode cL_law 1006 = .ok (.aload_n 0, 1) := by decide +kernel
theorem dL_law_1007 : decode cL_law 1007 = .ok (.iload_n 3, 1) := by decide +kernel
theorem dL_law_1008 : decode cL_law 1008 = .ok (.iconst 3, 1) := by decide +kernel
theorem dL_law_1009 : decode cL_law 1009 = .ok (.iadd, 1) := by decide +kernel
theorem dL_law_1010 : decode cL_law 1010 = .ok (.iaload, 1) := by decide +kernel
theorem dL_law_1011 : decode cL_law 1011 = .ok (.ifCond .eq 7, 3) := by decide +kernel
theorem dL_law_1014 : decode cL_law 1014 = .ok (.iconst 1, 1) := by decide +kernel
theorem dL_law_1015 : decode cL_law 1015 = .ok (.goto 4, 3) := by decide +kernel
theorem dL_law_1018 : decode cL_law 1018 = .ok (.iconst 0, 1) := by decide +kernel
theorem dL_law_1019 : decode cL_law 1019 = .ok (.invokevirtual 113, 3) := by decide +kernel
theorem dL_law_1022 : decode cL_law 1022 = .ok (.if_icmp .eq 1057, 3) := by decide +kernel
theorem dL_law_1025 : decode cL_law 1025 = .ok (.iconst 0, 1) := by decide +kernel
theorem dL_law_1026 : decode cL_law 1026 = .ok (.ireturn, 1) := by decide +kernel
theorem dL_law_1027 : decode cL_law 1027 = .ok (.aload_n 1, 1) := by decide +kernel
theorem dL_law_1028 : decode cL_law 1028 = .ok (.aload_n 0, 1) := by decide +kernel
theorem dL_law_1029 : decode cL_law 1029 = .ok (.iload_n 3, 1) := by decide +kernel
theorem dL_law_1030 : decode cL_law 1030 = .ok (.iconst 1, 1) := by decide +kernel
theorem dL_law_1031 : decode cL_law 1031 = .ok (.iadd, 1) := by decide +kernel
theorem dL_law_1032 : decode cL_law 1032 = .ok (.iaload, 1) := by decide +kernel
theorem dL_law_1033 : decode cL_law 1033 = .ok (.aload_n 0, 1) := by decide +kernel
theorem dL_law_1034 : decode cL_law 1034 = .ok (.iload_n 3, 1) := by decide +kernel
theorem dL_law_1035 : decode cL_law 1035 = .ok (.iconst 2, 1) := by decide +kernel
theorem dL_law_1036 : decode cL_law 1036 = .ok (.iadd, 1) := by decide +kernel
theorem dL_law_1037 : decode cL_law 1037 = .ok (.iaload, 1) := by decide +kernel
theorem dL_law_1038 : decode cL_law 1038 = .ok (.invokevirtual 114, 3) := by decide +kernel
theorem dL_law_1041 : decode cL_law 1041 = .ok (.aload_n 2, 1) := by decide +kernel
theorem dL_law_1042 : decode cL_law 1042 = .ok (.aload_n 0, 1) := by decide +kernel
theorem dL_law_1043 : decode cL_law 1043 = .ok (.iload_n 3, 1) := by decide +kernel
theorem dL_law_1044 : decode cL_law 1044 = .ok (.iconst 1, 1) := by decide +kernel
theorem dL_law_1045 : decode cL_law 1045 = .ok (.iadd, 1) := by decide +kernel
theorem dL_law_1046 : decode cL_law 1046 = .ok (.iaload, 1) := by decide +kernel
theorem dL_law_1047 : decode cL_law 1047 = .ok (.aload_n 0, 1) := by decide +kernel
theorem dL_law_1048 : decode cL_law 1048 = .ok (.iload_n 3, 1) := by decide +kernel
theorem dL_law_1049 : decode cL_law 1049 = .ok (.iconst 2, 1) := by decide +kernel
theorem dL_law_1050 : decode cL_law 1050 = .ok (.iadd, 1) := by decide +kernel
theorem dL_law_1051 : decode cL_law 1051 = .ok (.iaload, 1) := by decide +kernel
theorem dL_law_1052 : decode cL_law 1052 = .ok (.invokevirtual 117, 3) := by decide +kernel
theorem dL_law_1055 : decode cL_law 1055 = .ok (.if_icmp .eq 1024, 3) := by decide +kernel
theorem dL_law_1058 : decode cL_law 1058 = .ok (.iconst 0, 1) := by decide +kernel
theorem dL_law_1059 : decode cL_law 1059 = .ok (.ireturn, 1) := by decide +kernel
theorem dL_law_1060 : decode cL_law 1060 = .ok (.aload_n 1, 1) := by decide +kernel
theorem dL_law_1061 : decode cL_law 1061 = .ok (.aload_n 0, 1) := by decide +kernel
theorem dL_law_1062 : decode cL_law 1062 = .ok (.iload_n 3, 1) := by decide +kernel
theorem dL_law_1063 : decode cL_law 1063 = .ok (.iconst 1, 1) := by decide +kernel
theorem dL_law_1064 : decode cL_law 1064 = .ok (.iadd, 1) := by decide +kernel
theorem dL_law_1065 : decode cL_law 1065 = .ok (.iaload, 1) := by decide +kernel
theorem dL_law_1066 : decode cL_law 1066 = .ok (.invokevirtual 118, 3) := by decide +kernel
theorem dL_law_1069 : decode cL_law 1069 = .ok (.aload_n 2, 1) := by decide +kernel
theorem dL_law_1070 : decode cL_law 1070 = .ok (.aload_n 0, 1) := by decide +kernel
theorem dL_law_1071 : decode cL_law 1071 = .ok (.iload_n 3, 1) := by decide +kernel
theorem dL_law_1072 : decode cL_law 1072 = .ok (.iconst 1, 1) := by decide +kernel
theorem dL_law_1073 : decode cL_law 1073 = .ok (.iadd, 1) := by decide +kernel
theorem dL_law_1074 : decode cL_law 1074 = .ok (.iaload, 1) := by decide +kernel
theorem dL_law_1075 : decode cL_law 1075 = .ok (.invokevirtual 121, 3) := by decide +kernel
theorem dL_law_1078 : decode cL_law 1078 = .ok (.if_icmp .eq 1001, 3) := by decide +kernel
theorem dL_law_1081 : decode cL_law 1081 = .ok (.iconst 0, 1) := by decide +kernel
theorem dL_law_1082 : decode cL_law 1082 = .ok (.ireturn, 1) := by decide +kernel
theorem dL_law_1083 : decode cL_law 1083 = .ok (.aload_n 1, 1) := by decide +kernel
theorem dL_law_1084 : decode cL_law 1084 = .ok (.aload_n 0, 1) := by decide +kernel
theorem dL_law_1085 : decode cL_law 1085 = .ok (.iload_n 3, 1) := by decide +kernel
theorem dL_law_1086 : decode cL_law 1086 = .ok (.iconst 1, 1) := by decide +kernel
theorem dL_law_1087 : decode cL_law 1087 = .ok (.iadd, 1) := by decide +kernel
theorem dL_law_1088 : decode cL_law 1088 = .ok (.iaload, 1) := by decide +kernel
theorem dL_law_1089 : decode cL_law 1089 = .ok (.aload_n 0, 1) := by decide +kernel
theorem dL_law_1090 : decode cL_law 1090 = .ok (.iload_n 3, 1) := by decide +kernel
theorem dL_law_1091 : decode cL_law 1091 = .ok (.iconst 2, 1) := by decide +kernel
theorem dL_law_1092 : decode cL_law 1092 = .ok (.iadd, 1) := by decide +kernel
theorem dL_law_1093 : decode cL_law 1093 = .ok (.iaload, 1) := by decide +kernel
theorem dL_law_1094 : decode cL_law 1094 = .ok (.invokevirtual 122, 3) := by decide +kernel
theorem dL_law_1097 : decode cL_law 1097 = .ok (.aload_n 2, 1) := by decide +kernel
theorem dL_law_1098 : decode cL_law 1098 = .ok (.aload_n 0, 1) := by decide +kernel
theorem dL_law_1099 : decode cL_law 1099 = .ok (.iload_n 3, 1) := by decide +kernel
theorem dL_law_1100 : decode cL_law 1100 = .ok (.iconst 1, 1) := by decide +kernel
theorem dL_law_1101 : decode cL_law 1101 = .ok (.iadd, 1) := by decide +kernel
theorem dL_law_1102 : decode cL_law 1102 = .ok (.iaload, 1) := by decide +kernel
theorem dL_law_1103 : decode cL_law 1103 = .ok (.aload_n 0, 1) := by decide +kernel
theorem dL_law_1104 : decode cL_law 1104 = .ok (.iload_n 3, 1) := by decide +kernel
theorem dL_law_1105 : decode cL_law 1105 = .ok (.iconst 2, 1) := by decide +kernel
theorem dL_law_1106 : decode cL_law 1106 = .ok (.iadd, 1) := by decide +kernel
theorem dL_law_1107 : decode cL_law 1107 = .ok (.iaload, 1) := by decide +kernel
theorem dL_law_1108 : decode cL_law 1108 = .ok (.invokevirtual 125, 3) := by decide +kernel
theorem dL_law_1111 : decode cL_law 1111 = .ok (.if_icmp .eq 968, 3) := by decide +kernel
theorem dL_law_1114 : decode cL_law 1114 = .ok (.iconst 0, 1) := by decide +kernel
theorem dL_law_1115 : decode cL_law 1115 = .ok (.ireturn, 1) := by decide +kernel
theorem dL_law_1116 : decode cL_law 1116 = .ok (.aload_n 1, 1) := by decide +kernel
theorem dL_law_1117 : decode cL_law 1117 = .ok (.aload_n 0, 1) := by decide +kernel
theorem dL_law_1118 : decode cL_law 1118 = .ok (.iload_n 3, 1) := by decide +kernel
theorem dL_law_1119 : decode cL_law 1119 = .ok (.iconst 1, 1) := by decide +kernel
theorem dL_law_1120 : decode cL_law 1120 = .ok (.iadd, 1) := by decide +kernel
theorem dL_law_1121 : decode cL_law 1121 = .ok (.iaload, 1) := by decide +kernel
theorem dL_law_1122 : decode cL_law 1122 = .ok (.aload_n 0, 1) := by decide +kernel
theorem dL_law_1123 : decode cL_law 1123 = .ok (.iload_n 3, 1) := by decide +kernel
theorem dL_law_1124 : decode cL_law 1124 = .ok (.iconst 2, 1) := by decide +kernel
theorem dL_law_1125 : decode cL_law 1125 = .ok (.iadd, 1) := by decide +kernel
theorem dL_law_1126 : decode cL_law 1126 = .ok (.iaload, 1) := by decide +kernel
theorem dL_law_1127 : decode cL_law 1127 = .ok (.invokevirtual 126, 3) := by decide +kernel
theorem dL_law_1130 : decode cL_law 1130 = .ok (.aload_n 2, 1) := by decide +kernel
theorem dL_law_1131 : decode cL_law 1131 = .ok (.aload_n 0, 1) := by decide +kernel
theorem dL_law_1132 : decode cL_law 1132 = .ok (.iload_n 3, 1) := by decide +kernel
theorem dL_law_1133 : decode cL_law 1133 = .ok (.iconst 1, 1) := by decide +kernel
theorem dL_law_1134 : decode cL_law 1134 = .ok (.iadd, 1) := by decide +kernel
theorem dL_law_1135 : decode cL_law 1135 = .ok (.iaload, 1) := by decide +kernel
theorem dL_law_1136 : decode cL_law 1136 = .ok (.aload_n 0, 1) := by decide +kernel
theorem dL_law_1137 : decode cL_law 1137 = .ok (.iload_n 3, 1) := by decide +kernel
theorem dL_law_1138 : decode cL_law 1138 = .ok (.iconst 2, 1) := by decide +kernel
theorem dL_law_1139 : decode cL_law 1139 = .ok (.iadd, 1) := by decide +kernel
theorem dL_law_1140 : decode cL_law 1140 = .ok (.iaload, 1) := by decide +kernel
theorem dL_law_1141 : decode cL_law 1141 = .ok (.invokevirtual 129, 3) := by decide +kernel
theorem dL_law_1144 : decode cL_law 1144 = .ok (.if_icmp .eq 935, 3) := by decide +kernel
theorem dL_law_1147 : decode cL_law 1147 = .ok (.iconst 0, 1) := by decide +kernel
theorem dL_law_1148 : decode cL_law 1148 = .ok (.ireturn, 1) := by decide +kernel
theorem dL_law_1149 : decode cL_law 1149 = .ok (.aload_n 1, 1) := by decide +kernel
theorem dL_law_1150 : decode cL_law 1150 = .ok (.aload_n 0, 1) := by decide +kernel
theorem dL_law_1151 : decode cL_law 1151 = .ok (.iload_n 3, 1) := by decide +kernel
theorem dL_law_1152 : decode cL_law 1152 = .ok (.iconst 1, 1) := by decide +kernel
theorem dL_law_1153 : decode cL_law 1153 = .ok (.iadd, 1) := by decide +kernel
theorem dL_law_1154 : decode cL_law 1154 = .ok (.iaload, 1) := by decide +kernel
theorem dL_law_1155 : decode cL_law 1155 = .ok (.invokevirtual 130, 3) := by decide +kernel
theorem dL_law_1158 : decode cL_law 1158 = .ok (.aload_n 2, 1) := by decide +kernel
theorem dL_law_1159 : decode cL_law 1159 = .ok (.aload_n 0, 1) := by decide +kernel
theorem dL_law_1160 : decode cL_law 1160 = .ok (.iload_n 3, 1) := by decide +kernel
theorem dL_law_1161 : decode cL_law 1161 = .ok (.iconst 1, 1) := by decide +kernel
theorem dL_law_1162 : decode cL_law 1162 = .ok (.iadd, 1) := by decide +kernel
theorem dL_law_1163 : decode cL_law 1163 = .ok (.iaload, 1) := by decide +kernel
theorem dL_law_1164 : decode cL_law 1164 = .ok (.invokevirtual 134, 3) := by decide +kernel
theorem dL_law_1167 : decode cL_law 1167 = .ok (.if_icmp .eq 912, 3) := by decide +kernel
theorem dL_law_1170 : decode cL_law 1170 = .ok (.iconst 0, 1) := by decide +kernel
theorem dL_law_1171 : decode cL_law 1171 = .ok (.ireturn, 1) := by decide +kernel
theorem dL_law_1172 : decode cL_law 1172 = .ok (.aload_n 1, 1) := by decide +kernel
theorem dL_law_1173 : decode cL_law 1173 = .ok (.aload_n 0, 1) := by decide +kernel
theorem dL_law_1174 : decode cL_law 1174 = .ok (.iload_n 3, 1) := by decide +kernel
theorem dL_law_1175 : decode cL_law 1175 = .ok (.iconst 1, 1) := by decide +kernel
theorem dL_law_1176 : decode cL_law 1176 = .ok (.iadd, 1) := by decide +kernel
theorem dL_law_1177 : decode cL_law 1177 = .ok (.iaload, 1) := by decide +kernel
theorem dL_law_1178 : decode cL_law 1178 = .ok (.aload_n 0, 1) := by decide +kernel
theorem dL_law_1179 : decode cL_law 1179 = .ok (.iload_n 3, 1) := by decide +kernel
theorem dL_law_1180 : decode cL_law 1180 = .ok (.iconst 2, 1) := by decide +kernel
theorem dL_law_1181 : decode cL_law 1181 = .ok (.iadd, 1) := by decide +kernel
theorem dL_law_1182 : decode cL_law 1182 = .ok (.iaload, 1) := by decide +kernel
theorem dL_law_1183 : decode cL_law 1183 = .ok (.invokevirtual 135, 3) := by decide +kernel
theorem dL_law_1186 : decode cL_law 1186 = .ok (.aload_n 2, 1) := by decide +kernel
theorem dL_law_1187 : decode cL_law 1187 = .ok (.aload_n 0, 1) := by decide +kernel
theorem dL_law_1188 : decode cL_law 1188 = .ok (.iload_n 3, 1) := by decide +kernel
theorem dL_law_1189 : decode cL_law 1189 = .ok (.iconst 1, 1) := by decide +kernel
theorem dL_law_1190 : decode cL_law 1190 = .ok (.iadd, 1) := by decide +kernel
theorem dL_law_1191 : decode cL_law 1191 = .ok (.iaload, 1) := by decide +kernel
theorem dL_law_1192 : decode cL_law 1192 = .ok (.aload_n 0, 1) := by decide +kernel
theorem dL_law_1193 : decode cL_law 1193 = .ok (.iload_n 3, 1) := by decide +kernel
theorem dL_law_1194 : decode cL_law 1194 = .ok (.iconst 2, 1) := by decide +kernel
theorem dL_law_1195 : decode cL_law 1195 = .ok (.iadd, 1) := by decide +kernel
theorem dL_law_1196 : decode cL_law 1196 = .ok (.iaload, 1) := by decide +kernel
theorem dL_law_1197 : decode cL_law 1197 = .ok (.invokevirtual 138, 3) := by decide +kernel
theorem dL_law_1200 : decode cL_law 1200 = .ok (.if_icmp .eq 879, 3) := by decide +kernel
theorem dL_law_1203 : decode cL_law 1203 = .ok (.iconst 0, 1) := by decide +kernel
theorem dL_law_1204 : decode cL_law 1204 = .ok (.ireturn, 1) := by decide +kernel
theorem dL_law_1205 : decode cL_law 1205 = .ok (.aload_n 1, 1) := by decide +kernel
theorem dL_law_1206 : decode cL_law 1206 = .ok (.aload_n 0, 1) := by decide +kernel
theorem dL_law_1207 : decode cL_law 1207 = .ok (.iload_n 3, 1) := by decide +kernel
theorem dL_law_1208 : decode cL_law 1208 = .ok (.iconst 1, 1) := by decide +kernel
theorem dL_law_1209 : decode cL_law 1209 = .ok (.iadd, 1) := by decide +kernel
theorem dL_law_1210 : decode cL_law 1210 = .ok (.iaload, 1) := by decide +kernel
theorem dL_law_1211 : decode cL_law 1211 = .ok (.aload_n 0, 1) := by decide +kernel
theorem dL_law_1212 : decode cL_law 1212 = .ok (.iload_n 3, 1) := by decide +kernel
theorem dL_law_1213 : decode cL_law 1213 = .ok (.iconst 2, 1) := by decide +kernel
theorem dL_law_1214 : decode cL_law 1214 = .ok (.iadd, 1) := by decide +kernel
theorem dL_law_1215 : decode cL_law 1215 = .ok (.iaload, 1) := by decide +kernel
theorem dL_law_1216 : decode cL_law 1216 = .ok (.invokevirtual 139, 3) := by decide +kernel
theorem dL_law_1219 : decode cL_law 1219 = .ok (.aload_n 2, 1) := by decide +kernel
theorem dL_law_1220 : decode cL_law 1220 = .ok (.aload_n 0, 1) := by decide +kernel
theorem dL_law_1221 : decode cL_law 1221 = .ok (.iload_n 3, 1) := by decide +kernel
theorem dL_law_1222 : decode cL_law 1222 = .ok (.iconst 1, 1) := by decide +kernel
theorem dL_law_1223 : decode cL_law 1223 = .ok (.iadd, 1) := by decide +kernel
theorem dL_law_1224 : decode cL_law 1224 = .ok (.iaload, 1) := by decide +kernel
theorem dL_law_1225 : decode cL_law 1225 = .ok (.aload_n 0, 1) := by decide +kernel
theorem dL_law_1226 : decode cL_law 1226 = .ok (.iload_n 3, 1) := by decide +kernel
theorem dL_law_1227 : decode cL_law 1227 = .ok (.iconst 2, 1) := by decide +kernel
theorem dL_law_1228 : decode cL_law 1228 = .ok (.iadd, 1) := by decide +kernel
theorem dL_law_1229 : decode cL_law 1229 = .ok (.iaload, 1) := by decide +kernel
theorem dL_law_1230 : decode cL_law 1230 = .ok (.invokevirtual 142, 3) := by decide +kernel
theorem dL_law_1233 : decode cL_law 1233 = .ok (.if_icmp .eq 846, 3) := by decide +kernel
theorem dL_law_1236 : decode cL_law 1236 = .ok (.iconst 0, 1) := by decide +kernel
theorem dL_law_1237 : decode cL_law 1237 = .ok (.ireturn, 1) := by decide +kernel
theorem dL_law_1238 : decode cL_law 1238 = .ok (.aload_n 1, 1) := by decide +kernel
theorem dL_law_1239 : decode cL_law 1239 = .ok (.aload_n 0, 1) := by decide +kernel
theorem dL_law_1240 : decode cL_law 1240 = .ok (.iload_n 3, 1) := by decide +kernel
theorem dL_law_1241 : decode cL_law 1241 = .ok (.iconst 1, 1) := by decide +kernel
theorem dL_law_1242 : decode cL_law 1242 = .ok (.iadd, 1) := by decide +kernel
theorem dL_law_1243 : decode cL_law 1243 = .ok (.iaload, 1) := by decide +kernel
theorem dL_law_1244 : decode cL_law 1244 = .ok (.aload_n 0, 1) := by decide +kernel
theorem dL_law_1245 : decode cL_law 1245 = .ok (.iload_n 3, 1) := by decide +kernel
theorem dL_law_1246 : decode cL_law 1246 = .ok (.iconst 2, 1) := by decide +kernel
theorem dL_law_1247 : decode cL_law 1247 = .ok (.iadd, 1) := by decide +kernel
theorem dL_law_1248 : decode cL_law 1248 = .ok (.iaload, 1) := by decide +kernel
theorem dL_law_1249 : decode cL_law 1249 = .ok (.invokevirtual 143, 3) := by decide +kernel
theorem dL_law_1252 : decode cL_law 1252 = .ok (.aload_n 2, 1) := by decide +kernel
theorem dL_law_1253 : decode cL_law 1253 = .ok (.aload_n 0, 1) := by decide +kernel
theorem dL_law_1254 : decode cL_law 1254 = .ok (.iload_n 3, 1) := by decide +kernel
theorem dL_law_1255 : decode cL_law 1255 = .ok (.iconst 1, 1) := by decide +kernel
theorem dL_law_1256 : decode cL_law 1256 = .ok (.iadd, 1) := by decide +kernel
theorem dL_law_1257 : decode cL_law 1257 = .ok (.iaload, 1) := by decide +kernel
theorem dL_law_1258 : decode cL_law 1258 = .ok (.aload_n 0, 1) := by decide +kernel
theorem dL_law_1259 : decode cL_law 1259 = .ok (.iload_n 3, 1) := by decide +kernel
theorem dL_law_1260 : decode cL_law 1260 = .ok (.iconst 2, 1) := by decide +kernel
theorem dL_law_1261 : decode cL_law 1261 = .ok (.iadd, 1) := by decide +kernel
theorem dL_law_1262 : decode cL_law 1262 = .ok (.iaload, 1) := by decide +kernel
theorem dL_law_1263 : decode cL_law 1263 = .ok (.invokevirtual 146, 3) := by decide +kernel
theorem dL_law_1266 : decode cL_law 1266 = .ok (.if_icmp .eq 813, 3) := by decide +kernel
theorem dL_law_1269 : decode cL_law 1269 = .ok (.iconst 0, 1) := by decide +kernel
theorem dL_law_1270 : decode cL_law 1270 = .ok (.ireturn, 1) := by decide +kernel
theorem dL_law_1271 : decode cL_law 1271 = .ok (.aload_n 1, 1) := by decide +kernel
theorem dL_law_1272 : decode cL_law 1272 = .ok (.aload_n 0, 1) := by decide +kernel
theorem dL_law_1273 : decode cL_law 1273 = .ok (.iload_n 3, 1) := by decide +kernel
theorem dL_law_1274 : decode cL_law 1274 = .ok (.iconst 1, 1) := by decide +kernel
theorem dL_law_1275 : decode cL_law 1275 = .ok (.iadd, 1) := by decide +kernel
theorem dL_law_1276 : decode cL_law 1276 = .ok (.iaload, 1) := by decide +kernel
theorem dL_law_1277 : decode cL_law 1277 = .ok (.aload_n 0, 1) := by decide +kernel
theorem dL_law_1278 : decode cL_law 1278 = .ok (.iload_n 3, 1) := by decide +kernel
theorem dL_law_1279 : decode cL_law 1279 = .ok (.iconst 2, 1) := by decide +kernel
theorem dL_law_1280 : decode cL_law 1280 = .ok (.iadd, 1) := by decide +kernel
theorem dL_law_1281 : decode cL_law 1281 = .ok (.iaload, 1) := by decide +kernel
theorem dL_law_1282 : decode cL_law 1282 = .ok (.aload_n 0, 1) := by decide +kernel
theorem dL_law_1283 : decode cL_law 1283 = .ok (.iload_n 3, 1) := by decide +kernel
theorem dL_law_1284 : decode cL_law 1284 = .ok (.iconst 3, 1) := by decide +kernel
theorem dL_law_1285 : decode cL_law 1285 = .ok (.iadd, 1) := by decide +kernel
theorem dL_law_1286 : decode cL_law 1286 = .ok (.iaload, 1) := by decide +kernel
theorem dL_law_1287 : decode cL_law 1287 = .ok (.invokevirtual 147, 3) := by decide +kernel
theorem dL_law_1290 : decode cL_law 1290 = .ok (.aload_n 2, 1) := by decide +kernel
theorem dL_law_1291 : decode cL_law 1291 = .ok (.aload_n 0, 1) := by decide +kernel
theorem dL_law_1292 : decode cL_law 1292 = .ok (.iload_n 3, 1) := by decide +kernel
theorem dL_law_1293 : decode cL_law 1293 = .ok (.iconst 1, 1) := by decide +kernel
theorem dL_law_1294 : decode cL_law 1294 = .ok (.iadd, 1) := by decide +kernel
theorem dL_law_1295 : decode cL_law 1295 = .ok (.iaload, 1) := by decide +kernel
theorem dL_law_1296 : decode cL_law 1296 = .ok (.aload_n 0, 1) := by decide +kernel
theorem dL_law_1297 : decode cL_law 1297 = .ok (.iload_n 3, 1) := by decide +kernel
theorem dL_law_1298 : decode cL_law 1298 = .ok (.iconst 2, 1) := by decide +kernel
theorem dL_law_1299 : decode cL_law 1299 = .ok (.iadd, 1) := by decide +kernel
theorem dL_law_1300 : decode cL_law 1300 = .ok (.iaload, 1) := by decide +kernel
theorem dL_law_1301 : decode cL_law 1301 = .ok (.aload_n 0, 1) := by decide +kernel
theorem dL_law_1302 : decode cL_law 1302 = .ok (.iload_n 3, 1) := by decide +kernel
theorem dL_law_1303 : decode cL_law 1303 = .ok (.iconst 3, 1) := by decide +kernel
theorem dL_law_1304 : decode cL_law 1304 = .ok (.iadd, 1) := by decide +kernel
theorem dL_law_1305 : decode cL_law 1305 = .ok (.iaload, 1) := by decide +kernel
theorem dL_law_1306 : decode cL_law 1306 = .ok (.invokevirtual 150, 3) := by decide +kernel
theorem dL_law_1309 : decode cL_law 1309 = .ok (.if_icmp .eq 770, 3) := by decide +kernel
theorem dL_law_1312 : decode cL_law 1312 = .ok (.iconst 0, 1) := by decide +kernel
theorem dL_law_1313 : decode cL_law 1313 = .ok (.ireturn, 1) := by decide +kernel
theorem dL_law_1314 : decode cL_law 1314 = .ok (.aload_n 1, 1) := by decide +kernel
theorem dL_law_1315 : decode cL_law 1315 = .ok (.aload_n 0, 1) := by decide +kernel
theorem dL_law_1316 : decode cL_law 1316 = .ok (.iload_n 3, 1) := by decide +kernel
theorem dL_law_1317 : decode cL_law 1317 = .ok (.iconst 1, 1) := by decide +kernel
theorem dL_law_1318 : decode cL_law 1318 = .ok (.iadd, 1) := by decide +kernel
theorem dL_law_1319 : decode cL_law 1319 = .ok (.iaload, 1) := by decide +kernel
theorem dL_law_1320 : decode cL_law 1320 = .ok (.aload_n 0, 1) := by decide +kernel
theorem dL_law_1321 : decode cL_law 1321 = .ok (.iload_n 3, 1) := by decide +kernel
theorem dL_law_1322 : decode cL_law 1322 = .ok (.iconst 2, 1) := by decide +kernel
theorem dL_law_1323 : decode cL_law 1323 = .ok (.iadd, 1) := by decide +kernel
theorem dL_law_1324 : decode cL_law 1324 = .ok (.iaload, 1) := by decide +kernel
theorem dL_law_1325 : decode cL_law 1325 = .ok (.aload_n 0, 1) := by decide +kernel
theorem dL_law_1326 : decode cL_law 1326 = .ok (.iload_n 3, 1) := by decide +kernel
theorem dL_law_1327 : decode cL_law 1327 = .ok (.iconst 3, 1) := by decide +kernel
theorem dL_law_1328 : decode cL_law 1328 = .ok (.iadd, 1) := by decide +kernel
theorem dL_law_1329 : decode cL_law 1329 = .ok (.iaload, 1) := by decide +kernel
theorem dL_law_1330 : decode cL_law 1330 = .ok (.aload_n 0, 1) := by decide +kernel
theorem dL_law_1331 : decode cL_law 1331 = .ok (.iload_n 3, 1) := by decide +kernel
theorem dL_law_1332 : decode cL_law 1332 = .ok (.iconst 4, 1) := by decide +kernel
theorem dL_law_1333 : decode cL_law 1333 = .ok (.iadd, 1) := by decide +kernel
theorem dL_law_1334 : decode cL_law 1334 = .ok (.iaload, 1) := by decide +kernel
theorem dL_law_1335 : decode cL_law 1335 = .ok (.invokevirtual 151, 3) := by decide +kernel
theorem dL_law_1338 : decode cL_law 1338 = .ok (.aload_n 2, 1) := by decide +kernel
theorem dL_law_1339 : decode cL_law 1339 = .ok (.aload_n 0, 1) := by decide +kernel
theorem dL_law_1340 : decode cL_law 1340 = .ok (.iload_n 3, 1) := by decide +kernel
theorem dL_law_1341 : decode cL_law 1341 = .ok (.iconst 1, 1) := by decide +kernel
theorem dL_law_1342 : decode cL_law 1342 = .ok (.iadd, 1) := by decide +kernel
theorem dL_law_1343 : decode cL_law 1343 = .ok (.iaload, 1) := by decide +kernel
theorem dL_law_1344 : decode cL_law 1344 = .ok (.aload_n 0, 1) := by decide +kernel
theorem dL_law_1345 : decode cL_law 1345 = .ok (.iload_n 3, 1) := by decide +kernel
theorem dL_law_1346 : decode cL_law 1346 = .ok (.iconst 2, 1) := by decide +kernel
theorem dL_law_1347 : decode cL_law 1347 = .ok (.iadd, 1) := by decide +kernel
theorem dL_law_1348 : decode cL_law 1348 = .ok (.iaload, 1) := by decide +kernel
theorem dL_law_1349 : decode cL_law 1349 = .ok (.aload_n 0, 1) := by decide +kernel
theorem dL_law_1350 : decode cL_law 1350 = .ok (.iload_n 3, 1) := by decide +kernel
theorem dL_law_1351 : decode cL_law 1351 = .ok (.iconst 3, 1) := by decide +kernel
theorem dL_law_1352 : decode cL_law 1352 = .ok (.iadd, 1) := by decide +kernel
theorem dL_law_1353 : decode cL_law 1353 = .ok (.iaload, 1) := by decide +kernel
theorem dL_law_1354 : decode cL_law 1354 = .ok (.aload_n 0, 1) := by decide +kernel
theorem dL_law_1355 : decode cL_law 1355 = .ok (.iload_n 3, 1) := by decide +kernel
theorem dL_law_1356 : decode cL_law 1356 = .ok (.iconst 4, 1) := by decide +kernel
theorem dL_law_1357 : decode cL_law 1357 = .ok (.iadd, 1) := by decide +kernel
theorem dL_law_1358 : decode cL_law 1358 = .ok (.iaload, 1) := by decide +kernel
theorem dL_law_1359 : decode cL_law 1359 = .ok (.invokevirtual 155, 3) := by decide +kernel
theorem dL_law_1362 : decode cL_law 1362 = .ok (.if_icmp .eq 717, 3) := by decide +kernel
theorem dL_law_1365 : decode cL_law 1365 = .ok (.iconst 0, 1) := by decide +kernel
theorem dL_law_1366 : decode cL_law 1366 = .ok (.ireturn, 1) := by decide +kernel
theorem dL_law_1367 : decode cL_law 1367 = .ok (.aload_n 1, 1) := by decide +kernel
theorem dL_law_1368 : decode cL_law 1368 = .ok (.aload_n 0, 1) := by decide +kernel
theorem dL_law_1369 : decode cL_law 1369 = .ok (.iload_n 3, 1) := by decide +kernel
theorem dL_law_1370 : decode cL_law 1370 = .ok (.iconst 1, 1) := by decide +kernel
theorem dL_law_1371 : decode cL_law 1371 = .ok (.iadd, 1) := by decide +kernel
theorem dL_law_1372 : decode cL_law 1372 = .ok (.iaload, 1) := by decide +kernel
theorem dL_law_1373 : decode cL_law 1373 = .ok (.invokevirtual 156, 3) := by decide +kernel
theorem dL_law_1376 : decode cL_law 1376 = .ok (.aload_n 2, 1) := by decide +kernel
theorem dL_law_1377 : decode cL_law 1377 = .ok (.aload_n 0, 1) := by decide +kernel
theorem dL_law_1378 : decode cL_law 1378 = .ok (.iload_n 3, 1) := by decide +kernel
theorem dL_law_1379 : decode cL_law 1379 = .ok (.iconst 1, 1) := by decide +kernel
theorem dL_law_1380 : decode cL_law 1380 = .ok (.iadd, 1) := by decide +kernel
theorem dL_law_1381 : decode cL_law 1381 = .ok (.iaload, 1) := by decide +kernel
theorem dL_law_1382 : decode cL_law 1382 = .ok (.invokevirtual 159, 3) := by decide +kernel
theorem dL_law_1385 : decode cL_law 1385 = .ok (.if_icmp .eq 694, 3) := by decide +kernel
theorem dL_law_1388 : decode cL_law 1388 = .ok (.iconst 0, 1) := by decide +kernel
theorem dL_law_1389 : decode cL_law 1389 = .ok (.ireturn, 1) := by decide +kernel
theorem dL_law_1390 : decode cL_law 1390 = .ok (.aload_n 1, 1) := by decide +kernel
theorem dL_law_1391 : decode cL_law 1391 = .ok (.aload_n 0, 1) := by decide +kernel
theorem dL_law_1392 : decode cL_law 1392 = .ok (.iload_n 3, 1) := by decide +kernel
theorem dL_law_1393 : decode cL_law 1393 = .ok (.iconst 1, 1) := by decide +kernel
theorem dL_law_1394 : decode cL_law 1394 = .ok (.iadd, 1) := by decide +kernel
theorem dL_law_1395 : decode cL_law 1395 = .ok (.iaload, 1) := by decide +kernel
theorem dL_law_1396 : decode cL_law 1396 = .ok (.invokevirtual 160, 3) := by decide +kernel
theorem dL_law_1399 : decode cL_law 1399 = .ok (.aload_n 2, 1) := by decide +kernel
theorem dL_law_1400 : decode cL_law 1400 = .ok (.aload_n 0, 1) := by decide +kernel
theorem dL_law_1401 : decode cL_law 1401 = .ok (.iload_n 3, 1) := by decide +kernel
theorem dL_law_1402 : decode cL_law 1402 = .ok (.iconst 1, 1) := by decide +kernel
theorem dL_law_1403 : decode cL_law 1403 = .ok (.iadd, 1) := by decide +kernel
theorem dL_law_1404 : decode cL_law 1404 = .ok (.iaload, 1) := by decide +kernel
theorem dL_law_1405 : decode cL_law 1405 = .ok (.invokevirtual 163, 3) := by decide +kernel
theorem dL_law_1408 : decode cL_law 1408 = .ok (.if_icmp .eq 671, 3) := by decide +kernel
theorem dL_law_1411 : decode cL_law 1411 = .ok (.iconst 0, 1) := by decide +kernel
theorem dL_law_1412 : decode cL_law 1412 = .ok (.ireturn, 1) := by decide +kernel
theorem dL_law_1413 : decode cL_law 1413 = .ok (.aload_n 1, 1) := by decide +kernel
theorem dL_law_1414 : decode cL_law 1414 = .ok (.aload_n 0, 1) := by decide +kernel
theorem dL_law_1415 : decode cL_law 1415 = .ok (.iload_n 3, 1) := by decide +kernel
theorem dL_law_1416 : decode cL_law 1416 = .ok (.iconst 1, 1) := by decide +kernel
theorem dL_law_1417 : decode cL_law 1417 = .ok (.iadd, 1) := by decide +kernel
theorem dL_law_1418 : decode cL_law 1418 = .ok (.iaload, 1) := by decide +kernel
theorem dL_law_1419 : decode cL_law 1419 = .ok (.aload_n 0, 1) := by decide +kernel
theorem dL_law_1420 : decode cL_law 1420 = .ok (.iload_n 3, 1) := by decide +kernel
theorem dL_law_1421 : decode cL_law 1421 = .ok (.iconst 2, 1) := by decide +kernel
theorem dL_law_1422 : decode cL_law 1422 = .ok (.iadd, 1) := by decide +kernel
theorem dL_law_1423 : decode cL_law 1423 = .ok (.iaload, 1) := by decide +kernel
theorem dL_law_1424 : decode cL_law 1424 = .ok (.invokevirtual 164, 3) := by decide +kernel
theorem dL_law_1427 : decode cL_law 1427 = .ok (.aload_n 2, 1) := by decide +kernel
theorem dL_law_1428 : decode cL_law 1428 = .ok (.aload_n 0, 1) := by decide +kernel
theorem dL_law_1429 : decode cL_law 1429 = .ok (.iload_n 3, 1) := by decide +kernel
theorem dL_law_1430 : decode cL_law 1430 = .ok (.iconst 1, 1) := by decide +kernel
theorem dL_law_1431 : decode cL_law 1431 = .ok (.iadd, 1) := by decide +kernel
theorem dL_law_1432 : decode cL_law 1432 = .ok (.iaload, 1) := by decide +kernel
theorem dL_law_1433 : decode cL_law 1433 = .ok (.aload_n 0, 1) := by decide +kernel
theorem dL_law_1434 : decode cL_law 1434 = .ok (.iload_n 3, 1) := by decide +kernel
theorem dL_law_1435 : decode cL_law 1435 = .ok (.iconst 2, 1) := by decide +kernel
theorem dL_law_1436 : decode cL_law 1436 = .ok (.iadd, 1) := by decide +kernel
theorem dL_law_1437 : decode cL_law 1437 = .ok (.iaload, 1) := by decide +kernel
theorem dL_law_1438 : decode cL_law 1438 = .ok (.invokevirtual 167, 3) := by decide +kernel
theorem dL_law_1441 : decode cL_law 1441 = .ok (.if_icmp .eq 638, 3) := by decide +kernel
theorem dL_law_1444 : decode cL_law 1444 = .ok (.iconst 0, 1) := by decide +kernel
theorem dL_law_1445 : decode cL_law 1445 = .ok (.ireturn, 1) := by decide +kernel
theorem dL_law_1446 : decode cL_law 1446 = .ok (.aload_n 1, 1) := by decide +kernel
theorem dL_law_1447 : decode cL_law 1447 = .ok (.aload_n 0, 1) := by decide +kernel
theorem dL_law_1448 : decode cL_law 1448 = .ok (.iload_n 3, 1) := by decide +kernel
theorem dL_law_1449 : decode cL_law 1449 = .ok (.iconst 1, 1) := by decide +kernel
theorem dL_law_1450 : decode cL_law 1450 = .ok (.iadd, 1) := by decide +kernel
theorem dL_law_1451 : decode cL_law 1451 = .ok (.iaload, 1) := by decide +kernel
theorem dL_law_1452 : decode cL_law 1452 = .ok (.aload_n 0, 1) := by decide +kernel
theorem dL_law_1453 : decode cL_law 1453 = .ok (.iload_n 3, 1) := by decide +kernel
theorem dL_law_1454 : decode cL_law 1454 = .ok (.iconst 2, 1) := by decide +kernel
theorem dL_law_1455 : decode cL_law 1455 = .ok (.iadd, 1) := by decide +kernel
theorem dL_law_1456 : decode cL_law 1456 = .ok (.iaload, 1) := by decide +kernel
theorem dL_law_1457 : decode cL_law 1457 = .ok (.aload_n 0, 1) := by decide +kernel
theorem dL_law_1458 : decode cL_law 1458 = .ok (.iload_n 3, 1) := by decide +kernel
theorem dL_law_1459 : decode cL_law 1459 = .ok (.iconst 3, 1) := by decide +kernel
theorem dL_law_1460 : decode cL_law 1460 = .ok (.iadd, 1) := by decide +kernel
theorem dL_law_1461 : decode cL_law 1461 = .ok (.iaload, 1) := by decide +kernel
theorem dL_law_1462 : decode cL_law 1462 = .ok (.invokevirtual 168, 3) := by decide +kernel
theorem dL_law_1465 : decode cL_law 1465 = .ok (.aload_n 2, 1) := by decide +kernel
theorem dL_law_1466 : decode cL_law 1466 = .ok (.aload_n 0, 1) := by decide +kernel
theorem dL_law_1467 : decode cL_law 1467 = .ok (.iload_n 3, 1) := by decide +kernel
theorem dL_law_1468 : decode cL_law 1468 = .ok (.iconst 1, 1) := by decide +kernel
theorem dL_law_1469 : decode cL_law 1469 = .ok (.iadd, 1) := by decide +kernel
theorem dL_law_1470 : decode cL_law 1470 = .ok (.iaload, 1) := by decide +kernel
theorem dL_law_1471 : decode cL_law 1471 = .ok (.aload_n 0, 1) := by decide +kernel
theorem dL_law_1472 : decode cL_law 1472 = .ok (.iload_n 3, 1) := by decide +kernel
theorem dL_law_1473 : decode cL_law 1473 = .ok (.iconst 2, 1) := by decide +kernel
theorem dL_law_1474 : decode cL_law 1474 = .ok (.iadd, 1) := by decide +kernel
theorem dL_law_1475 : decode cL_law 1475 = .ok (.iaload, 1) := by decide +kernel
theorem dL_law_1476 : decode cL_law 1476 = .ok (.aload_n 0, 1) := by decide +kernel
theorem dL_law_1477 : decode cL_law 1477 = .ok (.iload_n 3, 1) := by decide +kernel
theorem dL_law_1478 : decode cL_law 1478 = .ok (.iconst 3, 1) := by decide +kernel
theorem dL_law_1479 : decode cL_law 1479 = .ok (.iadd, 1) := by decide +kernel
theorem dL_law_1480 : decode cL_law 1480 = .ok (.iaload, 1) := by decide +kernel
theorem dL_law_1481 : decode cL_law 1481 = .ok (.invokevirtual 171, 3) := by decide +kernel
theorem dL_law_1484 : decode cL_law 1484 = .ok (.if_icmp .eq 595, 3) := by decide +kernel
theorem dL_law_1487 : decode cL_law 1487 = .ok (.iconst 0, 1) := by decide +kernel
theorem dL_law_1488 : decode cL_law 1488 = .ok (.ireturn, 1) := by decide +kernel
theorem dL_law_1489 : decode cL_law 1489 = .ok (.aload_n 1, 1) := by decide +kernel
theorem dL_law_1490 : decode cL_law 1490 = .ok (.aload_n 0, 1) := by decide +kernel
theorem dL_law_1491 : decode cL_law 1491 = .ok (.iload_n 3, 1) := by decide +kernel
theorem dL_law_1492 : decode cL_law 1492 = .ok (.iconst 1, 1) := by decide +kernel
theorem dL_law_1493 : decode cL_law 1493 = .ok (.iadd, 1) := by decide +kernel
theorem dL_law_1494 : decode cL_law 1494 = .ok (.iaload, 1) := by decide +kernel
theorem dL_law_1495 : decode cL_law 1495 = .ok (.aload_n 0, 1) := by decide +kernel
theorem dL_law_1496 : decode cL_law 1496 = .ok (.iload_n 3, 1) := by decide +kernel
theorem dL_law_1497 : decode cL_law 1497 = .ok (.iconst 2, 1) := by decide +kernel
theorem dL_law_1498 : decode cL_law 1498 = .ok (.iadd, 1) := by decide +kernel
theorem dL_law_1499 : decode cL_law 1499 = .ok (.iaload, 1) := by decide +kernel
theorem dL_law_1500 : decode cL_law 1500 = .ok (.aload_n 0, 1) := by decide +kernel
theorem dL_law_1501 : decode cL_law 1501 = .ok (.iload_n 3, 1) := by decide +kernel
theorem dL_law_1502 : decode cL_law 1502 = .ok (.iconst 3, 1) := by decide +kernel
theorem dL_law_1503 : decode cL_law 1503 = .ok (.iadd, 1) := by decide +kernel
theorem dL_law_1504 : decode cL_law 1504 = .ok (.iaload, 1) := by decide +kernel
theorem dL_law_1505 : decode cL_law 1505 = .ok (.invokevirtual 172, 3) := by decide +kernel
theorem dL_law_1508 : decode cL_law 1508 = .ok (.aload_n 2, 1) := by decide +kernel
theorem dL_law_1509 : decode cL_law 1509 = .ok (.aload_n 0, 1) := by decide +kernel
theorem dL_law_1510 : decode cL_law 1510 = .ok (.iload_n 3, 1) := by decide +kernel
theorem dL_law_1511 : decode cL_law 1511 = .ok (.iconst 1, 1) := by decide +kernel
theorem dL_law_1512 : decode cL_law 1512 = .ok (.iadd, 1) := by decide +kernel
theorem dL_law_1513 : decode cL_law 1513 = .ok (.iaload, 1) := by decide +kernel
theorem dL_law_1514 : decode cL_law 1514 = .ok (.aload_n 0, 1) := by decide +kernel
theorem dL_law_1515 : decode cL_law 1515 = .ok (.iload_n 3, 1) := by decide +kernel
theorem dL_law_1516 : decode cL_law 1516 = .ok (.iconst 2, 1) := by decide +kernel
theorem dL_law_1517 : decode cL_law 1517 = .ok (.iadd, 1) := by decide +kernel
theorem dL_law_1518 : decode cL_law 1518 = .ok (.iaload, 1) := by decide +kernel
theorem dL_law_1519 : decode cL_law 1519 = .ok (.aload_n 0, 1) := by decide +kernel
theorem dL_law_1520 : decode cL_law 1520 = .ok (.iload_n 3, 1) := by decide +kernel
theorem dL_law_1521 : decode cL_law 1521 = .ok (.iconst 3, 1) := by decide +kernel
theorem dL_law_1522 : decode cL_law 1522 = .ok (.iadd, 1) := by decide +kernel
theorem dL_law_1523 : decode cL_law 1523 = .ok (.iaload, 1) := by decide +kernel
theorem dL_law_1524 : decode cL_law 1524 = .ok (.invokevirtual 175, 3) := by decide +kernel
theorem dL_law_1527 : decode cL_law 1527 = .ok (.if_icmp .eq 552, 3) := by decide +kernel
theorem dL_law_1530 : decode cL_law 1530 = .ok (.iconst 0, 1) := by decide +kernel
theorem dL_law_1531 : decode cL_law 1531 = .ok (.ireturn, 1) := by decide +kernel
theorem dL_law_1532 : decode cL_law 1532 = .ok (.aload_n 1, 1) := by decide +kernel
theorem dL_law_1533 : decode cL_law 1533 = .ok (.aload_n 0, 1) := by decide +kernel
theorem dL_law_1534 : decode cL_law 1534 = .ok (.iload_n 3, 1) := by decide +kernel
theorem dL_law_1535 : decode cL_law 1535 = .ok (.iconst 1, 1) := by decide +kernel
theorem dL_law_1536 : decode cL_law 1536 = .ok (.iadd, 1) := by decide +kernel
theorem dL_law_1537 : decode cL_law 1537 = .ok (.iaload, 1) := by decide +kernel
theorem dL_law_1538 : decode cL_law 1538 = .ok (.invokevirtual 176, 3) := by decide +kernel
theorem dL_law_1541 : decode cL_law 1541 = .ok (.aload_n 2, 1) := by decide +kernel
theorem dL_law_1542 : decode cL_law 1542 = .ok (.aload_n 0, 1) := by decide +kernel
theorem dL_law_1543 : decode cL_law 1543 = .ok (.iload_n 3, 1) := by decide +kernel
theorem dL_law_1544 : decode cL_law 1544 = .ok (.iconst 1, 1) := by decide +kernel
theorem dL_law_1545 : decode cL_law 1545 = .ok (.iadd, 1) := by decide +kernel
theorem dL_law_1546 : decode cL_law 1546 = .ok (.iaload, 1) := by decide +kernel
theorem dL_law_1547 : decode cL_law 1547 = .ok (.invokevirtual 179, 3) := by decide +kernel
theorem dL_law_1550 : decode cL_law 1550 = .ok (.if_icmp .eq 529, 3) := by decide +kernel
theorem dL_law_1553 : decode cL_law 1553 = .ok (.iconst 0, 1) := by decide +kernel
theorem dL_law_1554 : decode cL_law 1554 = .ok (.ireturn, 1) := by decide +kernel
theorem dL_law_1555 : decode cL_law 1555 = .ok (.aload_n 1, 1) := by decide +kernel
theorem dL_law_1556 : decode cL_law 1556 = .ok (.aload_n 0, 1) := by decide +kernel
theorem dL_law_1557 : decode cL_law 1557 = .ok (.iload_n 3, 1) := by decide +kernel
theorem dL_law_1558 : decode cL_law 1558 = .ok (.iconst 1, 1) := by decide +kernel
theorem dL_law_1559 : decode cL_law 1559 = .ok (.iadd, 1) := by decide +kernel
theorem dL_law_1560 : decode cL_law 1560 = .ok (.iaload, 1) := by decide +kernel
theorem dL_law_1561 : decode cL_law 1561 = .ok (.aload_n 0, 1) := by decide +kernel
theorem dL_law_1562 : decode cL_law 1562 = .ok (.iload_n 3, 1) := by decide +kernel
theorem dL_law_1563 : decode cL_law 1563 = .ok (.iconst 2, 1) := by decide +kernel
theorem dL_law_1564 : decode cL_law 1564 = .ok (.iadd, 1) := by decide +kernel
theorem dL_law_1565 : decode cL_law 1565 = .ok (.iaload, 1) := by decide +kernel
theorem dL_law_1566 : decode cL_law 1566 = .ok (.invokevirtual 180, 3) := by decide +kernel
theorem dL_law_1569 : decode cL_law 1569 = .ok (.aload_n 2, 1) := by decide +kernel
theorem dL_law_1570 : decode cL_law 1570 = .ok (.aload_n 0, 1) := by decide +kernel
theorem dL_law_1571 : decode cL_law 1571 = .ok (.iload_n 3, 1) := by decide +kernel
theorem dL_law_1572 : decode cL_law 1572 = .ok (.iconst 1, 1) := by decide +kernel
theorem dL_law_1573 : decode cL_law 1573 = .ok (.iadd, 1) := by decide +kernel
theorem dL_law_1574 : decode cL_law 1574 = .ok (.iaload, 1) := by decide +kernel
theorem dL_law_1575 : decode cL_law 1575 = .ok (.aload_n 0, 1) := by decide +kernel
theorem dL_law_1576 : decode cL_law 1576 = .ok (.iload_n 3, 1) := by decide +kernel
theorem dL_law_1577 : decode cL_law 1577 = .ok (.iconst 2, 1) := by decide +kernel
theorem dL_law_1578 : decode cL_law 1578 = .ok (.iadd, 1) := by decide +kernel
theorem dL_law_1579 : decode cL_law 1579 = .ok (.iaload, 1) := by decide +kernel
theorem dL_law_1580 : decode cL_law 1580 = .ok (.invokevirtual 183, 3) := by decide +kernel
theorem dL_law_1583 : decode cL_law 1583 = .ok (.if_icmp .eq 496, 3) := by decide +kernel
theorem dL_law_1586 : decode cL_law 1586 = .ok (.iconst 0, 1) := by decide +kernel
theorem dL_law_1587 : decode cL_law 1587 = .ok (.ireturn, 1) := by decide +kernel
theorem dL_law_1588 : decode cL_law 1588 = .ok (.aload_n 1, 1) := by decide +kernel
theorem dL_law_1589 : decode cL_law 1589 = .ok (.aload_n 0, 1) := by decide +kernel
theorem dL_law_1590 : decode cL_law 1590 = .ok (.iload_n 3, 1) := by decide +kernel
theorem dL_law_1591 : decode cL_law 1591 = .ok (.iconst 1, 1) := by decide +kernel
theorem dL_law_1592 : decode cL_law 1592 = .ok (.iadd, 1) := by decide +kernel
theorem dL_law_1593 : decode cL_law 1593 = .ok (.iaload, 1) := by decide +kernel
theorem dL_law_1594 : decode cL_law 1594 = .ok (.aload_n 0, 1) := by decide +kernel
theorem dL_law_1595 : decode cL_law 1595 = .ok (.iload_n 3, 1) := by decide +kernel
theorem dL_law_1596 : decode cL_law 1596 = .ok (.iconst 2, 1) := by decide +kernel
theorem dL_law_1597 : decode cL_law 1597 = .ok (.iadd, 1) := by decide +kernel
theorem dL_law_1598 : decode cL_law 1598 = .ok (.iaload, 1) := by decide +kernel
theorem dL_law_1599 : decode cL_law 1599 = .ok (.invokevirtual 184, 3) := by decide +kernel
theorem dL_law_1602 : decode cL_law 1602 = .ok (.aload_n 2, 1) := by decide +kernel
theorem dL_law_1603 : decode cL_law 1603 = .ok (.aload_n 0, 1) := by decide +kernel
theorem dL_law_1604 : decode cL_law 1604 = .ok (.iload_n 3, 1) := by decide +kernel
theorem dL_law_1605 : decode cL_law 1605 = .ok (.iconst 1, 1) := by decide +kernel
theorem dL_law_1606 : decode cL_law 1606 = .ok (.iadd, 1) := by decide +kernel
theorem dL_law_1607 : decode cL_law 1607 = .ok (.iaload, 1) := by decide +kernel
theorem dL_law_1608 : decode cL_law 1608 = .ok (.aload_n 0, 1) := by decide +kernel
theorem dL_law_1609 : decode cL_law 1609 = .ok (.iload_n 3, 1) := by decide +kernel
theorem dL_law_1610 : decode cL_law 1610 = .ok (.iconst 2, 1) := by decide +kernel
theorem dL_law_1611 : decode cL_law 1611 = .ok (.iadd, 1) := by decide +kernel
theorem dL_law_1612 : decode cL_law 1612 = .ok (.iaload, 1) := by decide +kernel
theorem dL_law_1613 : decode cL_law 1613 = .ok (.invokevirtual 187, 3) := by decide +kernel
theorem dL_law_1616 : decode cL_law 1616 = .ok (.if_icmp .eq 463, 3) := by decide +kernel
theorem dL_law_1619 : decode cL_law 1619 = .ok (.iconst 0, 1) := by decide +kernel
theorem dL_law_1620 : decode cL_law 1620 = .ok (.ireturn, 1) := by decide +kernel
theorem dL_law_1621 : decode cL_law 1621 = .ok (.aload_n 1, 1) := by decide +kernel
theorem dL_law_1622 : decode cL_law 1622 = .ok (.aload_n 0, 1) := by decide +kernel
theorem dL_law_1623 : decode cL_law 1623 = .ok (.iload_n 3, 1) := by decide +kernel
theorem dL_law_1624 : decode cL_law 1624 = .ok (.iconst 1, 1) := by decide +kernel
theorem dL_law_1625 : decode cL_law 1625 = .ok (.iadd, 1) := by decide +kernel
theorem dL_law_1626 : decode cL_law 1626 = .ok (.iaload, 1) := by decide +kernel
theorem dL_law_1627 : decode cL_law 1627 = .ok (.aload_n 0, 1) := by decide +kernel
theorem dL_law_1628 : decode cL_law 1628 = .ok (.iload_n 3, 1) := by decide +kernel
theorem dL_law_1629 : decode cL_law 1629 = .ok (.iconst 2, 1) := by decide +kernel
theorem dL_law_1630 : decode cL_law 1630 = .ok (.iadd, 1) := by decide +kernel
theorem dL_law_1631 : decode cL_law 1631 = .ok (.iaload, 1) := by decide +kernel
theorem dL_law_1632 : decode cL_law 1632 = .ok (.invokevirtual 188, 3) := by decide +kernel
theorem dL_law_1635 : decode cL_law 1635 = .ok (.aload_n 2, 1) := by decide +kernel
theorem dL_law_1636 : decode cL_law 1636 = .ok (.aload_n 0, 1) := by decide +kernel
theorem dL_law_1637 : decode cL_law 1637 = .ok (.iload_n 3, 1) := by decide +kernel
theorem dL_law_1638 : decode cL_law 1638 = .ok (.iconst 1, 1) := by decide +kernel
theorem dL_law_1639 : decode cL_law 1639 = .ok (.iadd, 1) := by decide +kernel
theorem dL_law_1640 : decode cL_law 1640 = .ok (.iaload, 1) := by decide +kernel
theorem dL_law_1641 : decode cL_law 1641 = .ok (.aload_n 0, 1) := by decide +kernel
theorem dL_law_1642 : decode cL_law 1642 = .ok (.iload_n 3, 1) := by decide +kernel
theorem dL_law_1643 : decode cL_law 1643 = .ok (.iconst 2, 1) := by decide +kernel
theorem dL_law_1644 : decode cL_law 1644 = .ok (.iadd, 1) := by decide +kernel
theorem dL_law_1645 : decode cL_law 1645 = .ok (.iaload, 1) := by decide +kernel
theorem dL_law_1646 : decode cL_law 1646 = .ok (.invokevirtual 191, 3) := by decide +kernel
theorem dL_law_1649 : decode cL_law 1649 = .ok (.if_icmp .eq 430, 3) := by decide +kernel
theorem dL_law_1652 : decode cL_law 1652 = .ok (.iconst 0, 1) := by decide +kernel
theorem dL_law_1653 : decode cL_law 1653 = .ok (.ireturn, 1) := by decide +kernel
theorem dL_law_1654 : decode cL_law 1654 = .ok (.aload_n 1, 1) := by decide +kernel
theorem dL_law_1655 : decode cL_law 1655 = .ok (.aload_n 0, 1) := by decide +kernel
theorem dL_law_1656 : decode cL_law 1656 = .ok (.iload_n 3, 1) := by decide +kernel
theorem dL_law_1657 : decode cL_law 1657 = .ok (.iconst 1, 1) := by decide +kernel
theorem dL_law_1658 : decode cL_law 1658 = .ok (.iadd, 1) := by decide +kernel
theorem dL_law_1659 : decode cL_law 1659 = .ok (.iaload, 1) := by decide +kernel
theorem dL_law_1660 : decode cL_law 1660 = .ok (.aload_n 0, 1) := by decide +kernel
theorem dL_law_1661 : decode cL_law 1661 = .ok (.iload_n 3, 1) := by decide +kernel
theorem dL_law_1662 : decode cL_law 1662 = .ok (.iconst 2, 1) := by decide +kernel
theorem dL_law_1663 : decode cL_law 1663 = .ok (.iadd, 1) := by decide +kernel
theorem dL_law_1664 : decode cL_law 1664 = .ok (.iaload, 1) := by decide +kernel
theorem dL_law_1665 : decode cL_law 1665 = .ok (.aload_n 0, 1) := by decide +kernel
theorem dL_law_1666 : decode cL_law 1666 = .ok (.iload_n 3, 1) := by decide +kernel
theorem dL_law_1667 : decode cL_law 1667 = .ok (.iconst 3, 1) := by decide +kernel
theorem dL_law_1668 : decode cL_law 1668 = .ok (.iadd, 1) := by decide +kernel
theorem dL_law_1669 : decode cL_law 1669 = .ok (.iaload, 1) := by decide +kernel
theorem dL_law_1670 : decode cL_law 1670 = .ok (.invokevirtual 192, 3) := by decide +kernel
theorem dL_law_1673 : decode cL_law 1673 = .ok (.aload_n 2, 1) := by decide +kernel
theorem dL_law_1674 : decode cL_law 1674 = .ok (.aload_n 0, 1) := by decide +kernel
theorem dL_law_1675 : decode cL_law 1675 = .ok (.iload_n 3, 1) := by decide +kernel
theorem dL_law_1676 : decode cL_law 1676 = .ok (.iconst 1, 1) := by decide +kernel
theorem dL_law_1677 : decode cL_law 1677 = .ok (.iadd, 1) := by decide +kernel
theorem dL_law_1678 : decode cL_law 1678 = .ok (.iaload, 1) := by decide +kernel
theorem dL_law_1679 : decode cL_law 1679 = .ok (.aload_n 0, 1) := by decide +kernel
theorem dL_law_1680 : decode cL_law 1680 = .ok (.iload_n 3, 1) := by decide +kernel
theorem dL_law_1681 : decode cL_law 1681 = .ok (.iconst 2, 1) := by decide +kernel
theorem dL_law_1682 : decode cL_law 1682 = .ok (.iadd, 1) := by decide +kernel
theorem dL_law_1683 : decode cL_law 1683 = .ok (.iaload, 1) := by decide +kernel
theorem dL_law_1684 : decode cL_law 1684 = .ok (.aload_n 0, 1) := by decide +kernel
theorem dL_law_1685 : decode cL_law 1685 = .ok (.iload_n 3, 1) := by decide +kernel
theorem dL_law_1686 : decode cL_law 1686 = .ok (.iconst 3, 1) := by decide +kernel
theorem dL_law_1687 : decode cL_law 1687 = .ok (.iadd, 1) := by decide +kernel
theorem dL_law_1688 : decode cL_law 1688 = .ok (.iaload, 1) := by decide +kernel
theorem dL_law_1689 : decode cL_law 1689 = .ok (.invokevirtual 195, 3) := by decide +kernel
theorem dL_law_1692 : decode cL_law 1692 = .ok (.if_icmp .eq 387, 3) := by decide +kernel
theorem dL_law_1695 : decode cL_law 1695 = .ok (.iconst 0, 1) := by decide +kernel
theorem dL_law_1696 : decode cL_law 1696 = .ok (.ireturn, 1) := by decide +kernel
theorem dL_law_1697 : decode cL_law 1697 = .ok (.aload_n 1, 1) := by decide +kernel
theorem dL_law_1698 : decode cL_law 1698 = .ok (.aload_n 0, 1) := by decide +kernel
theorem dL_law_1699 : decode cL_law 1699 = .ok (.iload_n 3, 1) := by decide +kernel
theorem dL_law_1700 : decode cL_law 1700 = .ok (.iconst 1, 1) := by decide +kernel
theorem dL_law_1701 : decode cL_law 1701 = .ok (.iadd, 1) := by decide +kernel
theorem dL_law_1702 : decode cL_law 1702 = .ok (.iaload, 1) := by decide +kernel
theorem dL_law_1703 : decode cL_law 1703 = .ok (.invokevirtual 196, 3) := by decide +kernel
theorem dL_law_1706 : decode cL_law 1706 = .ok (.aload_n 2, 1) := by decide +kernel
theorem dL_law_1707 : decode cL_law 1707 = .ok (.aload_n 0, 1) := by decide +kernel
theorem dL_law_1708 : decode cL_law 1708 = .ok (.iload_n 3, 1) := by decide +kernel
theorem dL_law_1709 : decode cL_law 1709 = .ok (.iconst 1, 1) := by decide +kernel
theorem dL_law_1710 : decode cL_law 1710 = .ok (.iadd, 1) := by decide +kernel
theorem dL_law_1711 : decode cL_law 1711 = .ok (.iaload, 1) := by decide +kernel
theorem dL_law_1712 : decode cL_law 1712 = .ok (.invokevirtual 199, 3) := by decide +kernel
theorem dL_law_1715 : decode cL_law 1715 = .ok (.if_icmp .eq 364, 3) := by decide +kernel
theorem dL_law_1718 : decode cL_law 1718 = .ok (.iconst 0, 1) := by decide +kernel
theorem dL_law_1719 : decode cL_law 1719 = .ok (.ireturn, 1) := by decide +kernel
theorem dL_law_1720 : decode cL_law 1720 = .ok (.aload_n 1, 1) := by decide +kernel
theorem dL_law_1721 : decode cL_law 1721 = .ok (.aload_n 0, 1) := by decide +kernel
theorem dL_law_1722 : decode cL_law 1722 = .ok (.iload_n 3, 1) := by decide +kernel
theorem dL_law_1723 : decode cL_law 1723 = .ok (.iconst 1, 1) := by decide +kernel
theorem dL_law_1724 : decode cL_law 1724 = .ok (.iadd, 1) := by decide +kernel
theorem dL_law_1725 : decode cL_law 1725 = .ok (.iaload, 1) := by decide +kernel
theorem dL_law_1726 : decode cL_law 1726 = .ok (.aload_n 0, 1) := by decide +kernel
theorem dL_law_1727 : decode cL_law 1727 = .ok (.iload_n 3, 1) := by decide +kernel
theorem dL_law_1728 : decode cL_law 1728 = .ok (.iconst 2, 1) := by decide +kernel
theorem dL_law_1729 : decode cL_law 1729 = .ok (.iadd, 1) := by decide +kernel
theorem dL_law_1730 : decode cL_law 1730 = .ok (.iaload, 1) := by decide +kernel
theorem dL_law_1731 : decode cL_law 1731 = .ok (.invokevirtual 200, 3) := by decide +kernel
theorem dL_law_1734 : decode cL_law 1734 = .ok (.aload_n 2, 1) := by decide +kernel
theorem dL_law_1735 : decode cL_law 1735 = .ok (.aload_n 0, 1) := by decide +kernel
theorem dL_law_1736 : decode cL_law 1736 = .ok (.iload_n 3, 1) := by decide +kernel
theorem dL_law_1737 : decode cL_law 1737 = .ok (.iconst 1, 1) := by decide +kernel
theorem dL_law_1738 : decode cL_law 1738 = .ok (.iadd, 1) := by decide +kernel
theorem dL_law_1739 : decode cL_law 1739 = .ok (.iaload, 1) := by decide +kernel
theorem dL_law_1740 : decode cL_law 1740 = .ok (.aload_n 0, 1) := by decide +kernel
theorem dL_law_1741 : decode cL_law 1741 = .ok (.iload_n 3, 1) := by decide +kernel
theorem dL_law_1742 : decode cL_law 1742 = .ok (.iconst 2, 1) := by decide +kernel
theorem dL_law_1743 : decode cL_law 1743 = .ok (.iadd, 1) := by decide +kernel
theorem dL_law_1744 : decode cL_law 1744 = .ok (.iaload, 1) := by decide +kernel
theorem dL_law_1745 : decode cL_law 1745 = .ok (.invokevirtual 203, 3) := by decide +kernel
theorem dL_law_1748 : decode cL_law 1748 = .ok (.if_icmp .eq 331, 3) := by decide +kernel
theorem dL_law_1751 : decode cL_law 1751 = .ok (.iconst 0, 1) := by decide +kernel
theorem dL_law_1752 : decode cL_law 1752 = .ok (.ireturn, 1) := by decide +kernel
theorem dL_law_1753 : decode cL_law 1753 = .ok (.aload_n 1, 1) := by decide +kernel
theorem dL_law_1754 : decode cL_law 1754 = .ok (.aload_n 0, 1) := by decide +kernel
theorem dL_law_1755 : decode cL_law 1755 = .ok (.iload_n 3, 1) := by decide +kernel
theorem dL_law_1756 : decode cL_law 1756 = .ok (.iconst 1, 1) := by decide +kernel
theorem dL_law_1757 : decode cL_law 1757 = .ok (.iadd, 1) := by decide +kernel
theorem dL_law_1758 : decode cL_law 1758 = .ok (.iaload, 1) := by decide +kernel
theorem dL_law_1759 : decode cL_law 1759 = .ok (.aload_n 0, 1) := by decide +kernel
theorem dL_law_1760 : decode cL_law 1760 = .ok (.iload_n 3, 1) := by decide +kernel
theorem dL_law_1761 : decode cL_law 1761 = .ok (.iconst 2, 1) := by decide +kernel
theorem dL_law_1762 : decode cL_law 1762 = .ok (.iadd, 1) := by decide +kernel
theorem dL_law_1763 : decode cL_law 1763 = .ok (.iaload, 1) := by decide +kernel
theorem dL_law_1764 : decode cL_law 1764 = .ok (.invokevirtual 204, 3) := by decide +kernel
theorem dL_law_1767 : decode cL_law 1767 = .ok (.aload_n 2, 1) := by decide +kernel
theorem dL_law_1768 : decode cL_law 1768 = .ok (.aload_n 0, 1) := by decide +kernel
theorem dL_law_1769 : decode cL_law 1769 = .ok (.iload_n 3, 1) := by decide +kernel
theorem dL_law_1770 : decode cL_law 1770 = .ok (.iconst 1, 1) := by decide +kernel
theorem dL_law_1771 : decode cL_law 1771 = .ok (.iadd, 1) := by decide +kernel
theorem dL_law_1772 : decode cL_law 1772 = .ok (.iaload, 1) := by decide +kernel
theorem dL_law_1773 : decode cL_law 1773 = .ok (.aload_n 0, 1) := by decide +kernel
theorem dL_law_1774 : decode cL_law 1774 = .ok (.iload_n 3, 1) := by decide +kernel
theorem dL_law_1775 : decode cL_law 1775 = .ok (.iconst 2, 1) := by decide +kernel
theorem dL_law_1776 : decode cL_law 1776 = .ok (.iadd, 1) := by decide +kernel
theorem dL_law_1777 : decode cL_law 1777 = .ok (.iaload, 1) := by decide +kernel
theorem dL_law_1778 : decode cL_law 1778 = .ok (.invokevirtual 207, 3) := by decide +kernel
theorem dL_law_1781 : decode cL_law 1781 = .ok (.if_icmp .eq 298, 3) := by decide +kernel
theorem dL_law_1784 : decode cL_law 1784 = .ok (.iconst 0, 1) := by decide +kernel
theorem dL_law_1785 : decode cL_law 1785 = .ok (.ireturn, 1) := by decide +kernel
theorem dL_law_1786 : decode cL_law 1786 = .ok (.aload_n 1, 1) := by decide +kernel
theorem dL_law_1787 : decode cL_law 1787 = .ok (.aload_n 0, 1) := by decide +kernel
theorem dL_law_1788 : decode cL_law 1788 = .ok (.iload_n 3, 1) := by decide +kernel
theorem dL_law_1789 : decode cL_law 1789 = .ok (.iconst 1, 1) := by decide +kernel
theorem dL_law_1790 : decode cL_law 1790 = .ok (.iadd, 1) := by decide +kernel
theorem dL_law_1791 : decode cL_law 1791 = .ok (.iaload, 1) := by decide +kernel
theorem dL_law_1792 : decode cL_law 1792 = .ok (.aload_n 0, 1) := by decide +kernel
theorem dL_law_1793 : decode cL_law 1793 = .ok (.iload_n 3, 1) := by decide +kernel
theorem dL_law_1794 : decode cL_law 1794 = .ok (.iconst 2, 1) := by decide +kernel
theorem dL_law_1795 : decode cL_law 1795 = .ok (.iadd, 1) := by decide +kernel
theorem dL_law_1796 : decode cL_law 1796 = .ok (.iaload, 1) := by decide +kernel
theorem dL_law_1797 : decode cL_law 1797 = .ok (.invokevirtual 208, 3) := by decide +kernel
theorem dL_law_1800 : decode cL_law 1800 = .ok (.aload_n 2, 1) := by decide +kernel
theorem dL_law_1801 : decode cL_law 1801 = .ok (.aload_n 0, 1) := by decide +kernel
theorem dL_law_1802 : decode cL_law 1802 = .ok (.iload_n 3, 1) := by decide +kernel
theorem dL_law_1803 : decode cL_law 1803 = .ok (.iconst 1, 1) := by decide +kernel
theorem dL_law_1804 : decode cL_law 1804 = .ok (.iadd, 1) := by decide +kernel
theorem dL_law_1805 : decode cL_law 1805 = .ok (.iaload, 1) := by decide +kernel
theorem dL_law_1806 : decode cL_law 1806 = .ok (.aload_n 0, 1) := by decide +kernel
theorem dL_law_1807 : decode cL_law 1807 = .ok (.iload_n 3, 1) := by decide +kernel
theorem dL_law_1808 : decode cL_law 1808 = .ok (.iconst 2, 1) := by decide +kernel
theorem dL_law_1809 : decode cL_law 1809 = .ok (.iadd, 1) := by decide +kernel
theorem dL_law_1810 : decode cL_law 1810 = .ok (.iaload, 1) := by decide +kernel
theorem dL_law_1811 : decode cL_law 1811 = .ok (.invokevirtual 211, 3) := by decide +kernel
theorem dL_law_1814 : decode cL_law 1814 = .ok (.if_icmp .eq 265, 3) := by decide +kernel
theorem dL_law_1817 : decode cL_law 1817 = .ok (.iconst 0, 1) := by decide +kernel
theorem dL_law_1818 : decode cL_law 1818 = .ok (.ireturn, 1) := by decide +kernel
theorem dL_law_1819 : decode cL_law 1819 = .ok (.aload_n 1, 1) := by decide +kernel
theorem dL_law_1820 : decode cL_law 1820 = .ok (.aload_n 0, 1) := by decide +kernel
theorem dL_law_1821 : decode cL_law 1821 = .ok (.iload_n 3, 1) := by decide +kernel
theorem dL_law_1822 : decode cL_law 1822 = .ok (.iconst 1, 1) := by decide +kernel
theorem dL_law_1823 : decode cL_law 1823 = .ok (.iadd, 1) := by decide +kernel
theorem dL_law_1824 : decode cL_law 1824 = .ok (.iaload, 1) := by decide +kernel
theorem dL_law_1825 : decode cL_law 1825 = .ok (.aload_n 0, 1) := by decide +kernel
theorem dL_law_1826 : decode cL_law 1826 = .ok (.iload_n 3, 1) := by decide +kernel
theorem dL_law_1827 : decode cL_law 1827 = .ok (.iconst 2, 1) := by decide +kernel
theorem dL_law_1828 : decode cL_law 1828 = .ok (.iadd, 1) := by decide +kernel
theorem dL_law_1829 : decode cL_law 1829 = .ok (.iaload, 1) := by decide +kernel
theorem dL_law_1830 : decode cL_law 1830 = .ok (.invokevirtual 212, 3) := by decide +kernel
theorem dL_law_1833 : decode cL_law 1833 = .ok (.aload_n 2, 1) := by decide +kernel
theorem dL_law_1834 : decode cL_law 1834 = .ok (.aload_n 0, 1) := by decide +kernel
theorem dL_law_1835 : decode cL_law 1835 = .ok (.iload_n 3, 1) := by decide +kernel
theorem dL_law_1836 : decode cL_law 1836 = .ok (.iconst 1, 1) := by decide +kernel
theorem dL_law_1837 : decode cL_law 1837 = .ok (.iadd, 1) := by decide +kernel
theorem dL_law_1838 : decode cL_law 1838 = .ok (.iaload, 1) := by decide +kernel
theorem dL_law_1839 : decode cL_law 1839 = .ok (.aload_n 0, 1) := by decide +kernel
theorem dL_law_1840 : decode cL_law 1840 = .ok (.iload_n 3, 1) := by decide +kernel
theorem dL_law_1841 : decode cL_law 1841 = .ok (.iconst 2, 1) := by decide +kernel
theorem dL_law_1842 : decode cL_law 1842 = .ok (.iadd, 1) := by decide +kernel
theorem dL_law_1843 : decode cL_law 1843 = .ok (.iaload, 1) := by decide +kernel
theorem dL_law_1844 : decode cL_law 1844 = .ok (.invokevirtual 215, 3) := by decide +kernel
theorem dL_law_1847 : decode cL_law 1847 = .ok (.if_icmp .eq 232, 3) := by decide +kernel
theorem dL_law_1850 : decode cL_law 1850 = .ok (.iconst 0, 1) := by decide +kernel
theorem dL_law_1851 : decode cL_law 1851 = .ok (.ireturn, 1) := by decide +kernel
theorem dL_law_1852 : decode cL_law 1852 = .ok (.aload_n 1, 1) := by decide +kernel
theorem dL_law_1853 : decode cL_law 1853 = .ok (.aload_n 0, 1) := by decide +kernel
theorem dL_law_1854 : decode cL_law 1854 = .ok (.iload_n 3, 1) := by decide +kernel
theorem dL_law_1855 : decode cL_law 1855 = .ok (.iconst 1, 1) := by decide +kernel
theorem dL_law_1856 : decode cL_law 1856 = .ok (.iadd, 1) := by decide +kernel
theorem dL_law_1857 : decode cL_law 1857 = .ok (.iaload, 1) := by decide +kernel
theorem dL_law_1858 : decode cL_law 1858 = .ok (.aload_n 0, 1) := by decide +kernel
theorem dL_law_1859 : decode cL_law 1859 = .ok (.iload_n 3, 1) := by decide +kernel
theorem dL_law_1860 : decode cL_law 1860 = .ok (.iconst 2, 1) := by decide +kernel
theorem dL_law_1861 : decode cL_law 1861 = .ok (.iadd, 1) := by decide +kernel
theorem dL_law_1862 : decode cL_law 1862 = .ok (.iaload, 1) := by decide +kernel
theorem dL_law_1863 : decode cL_law 1863 = .ok (.invokevirtual 216, 3) := by decide +kernel
theorem dL_law_1866 : decode cL_law 1866 = .ok (.aload_n 2, 1) := by decide +kernel
theorem dL_law_1867 : decode cL_law 1867 = .ok (.aload_n 0, 1) := by decide +kernel
theorem dL_law_1868 : decode cL_law 1868 = .ok (.iload_n 3, 1) := by decide +kernel
theorem dL_law_1869 : decode cL_law 1869 = .ok (.iconst 1, 1) := by decide +kernel
theorem dL_law_1870 : decode cL_law 1870 = .ok (.iadd, 1) := by decide +kernel
theorem dL_law_1871 : decode cL_law 1871 = .ok (.iaload, 1) := by decide +kernel
theorem dL_law_1872 : decode cL_law 1872 = .ok (.aload_n 0, 1) := by decide +kernel
theorem dL_law_1873 : decode cL_law 1873 = .ok (.iload_n 3, 1) := by decide +kernel
theorem dL_law_1874 : decode cL_law 1874 = .ok (.iconst 2, 1) := by decide +kernel
theorem dL_law_1875 : decode cL_law 1875 = .ok (.iadd, 1) := by decide +kernel
theorem dL_law_1876 : decode cL_law 1876 = .ok (.iaload, 1) := by decide +kernel
theorem dL_law_1877 : decode cL_law 1877 = .ok (.invokevirtual 219, 3) := by decide +kernel
theorem dL_law_1880 : decode cL_law 1880 = .ok (.if_icmp .eq 199, 3) := by decide +kernel
theorem dL_law_1883 : decode cL_law 1883 = .ok (.iconst 0, 1) := by decide +kernel
theorem dL_law_1884 : decode cL_law 1884 = .ok (.ireturn, 1) := by decide +kernel
theorem dL_law_1885 : decode cL_law 1885 = .ok (.aload_n 1, 1) := by decide +kernel
theorem dL_law_1886 : decode cL_law 1886 = .ok (.aload_n 0, 1) := by decide +kernel
theorem dL_law_1887 : decode cL_law 1887 = .ok (.iload_n 3, 1) := by decide +kernel
theorem dL_law_1888 : decode cL_law 1888 = .ok (.iconst 1, 1) := by decide +kernel
theorem dL_law_1889 : decode cL_law 1889 = .ok (.iadd, 1) := by decide +kernel
theorem dL_law_1890 : decode cL_law 1890 = .ok (.iaload, 1) := by decide +kernel
theorem dL_law_1891 : decode cL_law 1891 = .ok (.aload_n 0, 1) := by decide +kernel
theorem dL_law_1892 : decode cL_law 1892 = .ok (.iload_n 3, 1) := by decide +kernel
theorem dL_law_1893 : decode cL_law 1893 = .ok (.iconst 2, 1) := by decide +kernel
theorem dL_law_1894 : decode cL_law 1894 = .ok (.iadd, 1) := by decide +kernel
theorem dL_law_1895 : decode cL_law 1895 = .ok (.iaload, 1) := by decide +kernel
theorem dL_law_1896 : decode cL_law 1896 = .ok (.invokevirtual 220, 3) := by decide +kernel
theorem dL_law_1899 : decode cL_law 1899 = .ok (.aload_n 2, 1) := by decide +kernel
theorem dL_law_1900 : decode cL_law 1900 = .ok (.aload_n 0, 1) := by decide +kernel
theorem dL_law_1901 : decode cL_law 1901 = .ok (.iload_n 3, 1) := by decide +kernel
theorem dL_law_1902 : decode cL_law 1902 = .ok (.iconst 1, 1) := by decide +kernel
theorem dL_law_1903 : decode cL_law 1903 = .ok (.iadd, 1) := by decide +kernel
theorem dL_law_1904 : decode cL_law 1904 = .ok (.iaload, 1) := by decide +kernel
theorem dL_law_1905 : decode cL_law 1905 = .ok (.aload_n 0, 1) := by decide +kernel
theorem dL_law_1906 : decode cL_law 1906 = .ok (.iload_n 3, 1) := by decide +kernel
theorem dL_law_1907 : decode cL_law 1907 = .ok (.iconst 2, 1) := by decide +kernel
theorem dL_law_1908 : decode cL_law 1908 = .ok (.iadd, 1) := by decide +kernel
theorem dL_law_1909 : decode cL_law 1909 = .ok (.iaload, 1) := by decide +kernel
theorem dL_law_1910 : decode cL_law 1910 = .ok (.invokevirtual 223, 3) := by decide +kernel
theorem dL_law_1913 : decode cL_law 1913 = .ok (.if_icmp .eq 166, 3) := by decide +kernel
theorem dL_law_1916 : decode cL_law 1916 = .ok (.iconst 0, 1) := by decide +kernel
theorem dL_law_1917 : decode cL_law 1917 = .ok (.ireturn, 1) := by decide +kernel
theorem dL_law_1918 : decode cL_law 1918 = .ok (.aload_n 1, 1) := by decide +kernel
theorem dL_law_1919 : decode cL_law 1919 = .ok (.aload_n 0, 1) := by decide +kernel
theorem dL_law_1920 : decode cL_law 1920 = .ok (.iload_n 3, 1) := by decide +kernel
theorem dL_law_1921 : decode cL_law 1921 = .ok (.iconst 1, 1) := by decide +kernel
theorem dL_law_1922 : decode cL_law 1922 = .ok (.iadd, 1) := by decide +kernel
theorem dL_law_1923 : decode cL_law 1923 = .ok (.iaload, 1) := by decide +kernel
theorem dL_law_1924 : decode cL_law 1924 = .ok (.aload_n 0, 1) := by decide +kernel
theorem dL_law_1925 : decode cL_law 1925 = .ok (.iload_n 3, 1) := by decide +kernel
theorem dL_law_1926 : decode cL_law 1926 = .ok (.iconst 2, 1) := by decide +kernel
theorem dL_law_1927 : decode cL_law 1927 = .ok (.iadd, 1) := by decide +kernel
theorem dL_law_1928 : decode cL_law 1928 = .ok (.iaload, 1) := by decide +kernel
theorem dL_law_1929 : decode cL_law 1929 = .ok (.invokevirtual 224, 3) := by decide +kernel
theorem dL_law_1932 : decode cL_law 1932 = .ok (.aload_n 2, 1) := by decide +kernel
theorem dL_law_1933 : decode cL_law 1933 = .ok (.aload_n 0, 1) := by decide +kernel
theorem dL_law_1934 : decode cL_law 1934 = .ok (.iload_n 3, 1) := by decide +kernel
theorem dL_law_1935 : decode cL_law 1935 = .ok (.iconst 1, 1) := by decide +kernel
theorem dL_law_1936 : decode cL_law 1936 = .ok (.iadd, 1) := by decide +kernel
theorem dL_law_1937 : decode cL_law 1937 = .ok (.iaload, 1) := by decide +kernel
theorem dL_law_1938 : decode cL_law 1938 = .ok (.aload_n 0, 1) := by decide +kernel
theorem dL_law_1939 : decode cL_law 1939 = .ok (.iload_n 3, 1) := by decide +kernel
theorem dL_law_1940 : decode cL_law 1940 = .ok (.iconst 2, 1) := by decide +kernel
theorem dL_law_1941 : decode cL_law 1941 = .ok (.iadd, 1) := by decide +kernel
theorem dL_law_1942 : decode cL_law 1942 = .ok (.iaload, 1) := by decide +kernel
theorem dL_law_1943 : decode cL_law 1943 = .ok (.invokevirtual 228, 3) := by decide +kernel
theorem dL_law_1946 : decode cL_law 1946 = .ok (.if_icmp .eq 133, 3) := by decide +kernel
theorem dL_law_1949 : decode cL_law 1949 = .ok (.iconst 0, 1) := by decide +kernel
theorem dL_law_1950 : decode cL_law 1950 = .ok (.ireturn, 1) := by decide +kernel
theorem dL_law_1951 : decode cL_law 1951 = .ok (.aload_n 1, 1) := by decide +kernel
theorem dL_law_1952 : decode cL_law 1952 = .ok (.aload_n 0, 1) := by decide +kernel
theorem dL_law_1953 : decode cL_law 1953 = .ok (.iload_n 3, 1) := by decide +kernel
theorem dL_law_1954 : decode cL_law 1954 = .ok (.iconst 1, 1) := by decide +kernel
theorem dL_law_1955 : decode cL_law 1955 = .ok (.iadd, 1) := by decide +kernel
theorem dL_law_1956 : decode cL_law 1956 = .ok (.iaload, 1) := by decide +kernel
theorem dL_law_1957 : decode cL_law 1957 = .ok (.invokevirtual 229, 3) := by decide +kernel
theorem dL_law_1960 : decode cL_law 1960 = .ok (.aload_n 2, 1) := by decide +kernel
theorem dL_law_1961 : decode cL_law 1961 = .ok (.aload_n 0, 1) := by decide +kernel
theorem dL_law_1962 : decode cL_law 1962 = .ok (.iload_n 3, 1) := by decide +kernel
theorem dL_law_1963 : decode cL_law 1963 = .ok (.iconst 1, 1) := by decide +kernel
theorem dL_law_1964 : decode cL_law 1964 = .ok (.iadd, 1) := by decide +kernel
theorem dL_law_1965 : decode cL_law 1965 = .ok (.iaload, 1) := by decide +kernel
theorem dL_law_1966 : decode cL_law 1966 = .ok (.invokevirtual 232, 3) := by decide +kernel
theorem dL_law_1969 : decode cL_law 1969 = .ok (.if_icmp .eq 110, 3) := by decide +kernel
theorem dL_law_1972 : decode cL_law 1972 = .ok (.iconst 0, 1) := by decide +kernel
theorem dL_law_1973 : decode cL_law 1973 = .ok (.ireturn, 1) := by decide +kernel
theorem dL_law_1974 : decode cL_law 1974 = .ok (.aload_n 1, 1) := by decide +kernel
theorem dL_law_1975 : decode cL_law 1975 = .ok (.aload_n 0, 1) := by decide +kernel
theorem dL_law_1976 : decode cL_law 1976 = .ok (.iload_n 3, 1) := by decide +kernel
theorem dL_law_1977 : decode cL_law 1977 = .ok (.iconst 1, 1) := by decide +kernel
theorem dL_law_1978 : decode cL_law 1978 = .ok (.iadd, 1) := by decide +kernel
theorem dL_law_1979 : decode cL_law 1979 = .ok (.iaload, 1) := by decide +kernel
theorem dL_law_1980 : decode cL_law 1980 = .ok (.invokevirtual 233, 3) := by decide +kernel
theorem dL_law_1983 : decode cL_law 1983 = .ok (.aload_n 2, 1) := by decide +kernel
theorem dL_law_1984 : decode cL_law 1984 = .ok (.aload_n 0, 1) := by decide +kernel
theorem dL_law_1985 : decode cL_law 1985 = .ok (.iload_n 3, 1) := by decide +kernel
theorem dL_law_1986 : decode cL_law 1986 = .ok (.iconst 1, 1) := by decide +kernel
theorem dL_law_1987 : decode cL_law 1987 = .ok (.iadd, 1) := by decide +kernel
theorem dL_law_1988 : decode cL_law 1988 = .ok (.iaload, 1) := by decide +kernel
theorem dL_law_1989 : decode cL_law 1989 = .ok (.invokevirtual 236, 3) := by decide +kernel
theorem dL_law_1992 : decode cL_law 1992 = .ok (.if_icmp .eq 87, 3) := by decide +kernel
theorem dL_law_1995 : decode cL_law 1995 = .ok (.iconst 0, 1) := by decide +kernel
theorem dL_law_1996 : decode cL_law 1996 = .ok (.ireturn, 1) := by decide +kernel
theorem dL_law_1997 : decode cL_law 1997 = .ok (.aload_n 1, 1) := by decide +kernel
theorem dL_law_1998 : decode cL_law 1998 = .ok (.aload_n 0, 1) := by decide +kernel
theorem dL_law_1999 : decode cL_law 1999 = .ok (.iload_n 3, 1) := by decide +kernel
theorem dL_law_2000 : decode cL_law 2000 = .ok (.iconst 1, 1) := by decide +kernel
theorem dL_law_2001 : decode cL_law 2001 = .ok (.iadd, 1) := by decide +kernel
theorem dL_law_2002 : decode cL_law 2002 = .ok (.iaload, 1) := by decide +kernel
theorem dL_law_2003 : decode cL_law 2003 = .ok (.invokevirtual 237, 3) := by decide +kernel
theorem dL_law_2006 : decode cL_law 2006 = .ok (.aload_n 2, 1) := by decide +kernel
theorem dL_law_2007 : decode cL_law 2007 = .ok (.aload_n 0, 1) := by decide +kernel
theorem dL_law_2008 : decode cL_law 2008 = .ok (.iload_n 3, 1) := by decide +kernel
theorem dL_law_2009 : decode cL_law 2009 = .ok (.iconst 1, 1) := by decide +kernel
theorem dL_law_2010 : decode cL_law 2010 = .ok (.iadd, 1) := by decide +kernel
theorem dL_law_2011 : decode cL_law 2011 = .ok (.iaload, 1) := by decide +kernel
theorem dL_law_2012 : decode cL_law 2012 = .ok (.invokevirtual 240, 3) := by decide +kernel
theorem dL_law_2015 : decode cL_law 2015 = .ok (.if_icmp .eq 64, 3) := by decide +kernel
theorem dL_law_2018 : decode cL_law 2018 = .ok (.iconst 0, 1) := by decide +kernel
theorem dL_law_2019 : decode cL_law 2019 = .ok (.ireturn, 1) := by decide +kernel
theorem dL_law_2020 : decode cL_law 2020 = .ok (.aload_n 1, 1) := by decide +kernel
theorem dL_law_2021 : decode cL_law 2021 = .ok (.aload_n 0, 1) := by decide +kernel
theorem dL_law_2022 : decode cL_law 2022 = .ok (.iload_n 3, 1) := by decide +kernel
theorem dL_law_2023 : decode cL_law 2023 = .ok (.iconst 1, 1) := by decide +kernel
theorem dL_law_2024 : decode cL_law 2024 = .ok (.iadd, 1) := by decide +kernel
theorem dL_law_2025 : decode cL_law 2025 = .ok (.iaload, 1) := by decide +kernel
theorem dL_law_2026 : decode cL_law 2026 = .ok (.aload_n 0, 1) := by decide +kernel
theorem dL_law_2027 : decode cL_law 2027 = .ok (.iload_n 3, 1) := by decide +kernel
theorem dL_law_2028 : decode cL_law 2028 = .ok (.iconst 2, 1) := by decide +kernel
theorem dL_law_2029 : decode cL_law 2029 = .ok (.iadd, 1) := by decide +kernel
theorem dL_law_2030 : decode cL_law 2030 = .ok (.iaload, 1) := by decide +kernel
theorem dL_law_2031 : decode cL_law 2031 = .ok (.invokevirtual 241, 3) := by decide +kernel
theorem dL_law_2034 : decode cL_law 2034 = .ok (.aload_n 2, 1) := by decide +kernel
theorem dL_law_2035 : decode cL_law 2035 = .ok (.aload_n 0, 1) := by decide +kernel
theorem dL_law_2036 : decode cL_law 2036 = .ok (.iload_n 3, 1) := by decide +kernel
theorem dL_law_2037 : decode cL_law 2037 = .ok (.iconst 1, 1) := by decide +kernel
theorem dL_law_2038 : decode cL_law 2038 = .ok (.iadd, 1) := by decide +kernel
theorem dL_law_2039 : decode cL_law 2039 = .ok (.iaload, 1) := by decide +kernel
theorem dL_law_2040 : decode cL_law 2040 = .ok (.aload_n 0, 1) := by decide +kernel
theorem dL_law_2041 : decode cL_law 2041 = .ok (.iload_n 3, 1) := by decide +kernel
theorem dL_law_2042 : decode cL_law 2042 = .ok (.iconst 2, 1) := by decide +kernel
theorem dL_law_2043 : decode cL_law 2043 = .ok (.iadd, 1) := by decide +kernel
theorem dL_law_2044 : decode cL_law 2044 = .ok (.iaload, 1) := by decide +kernel
theorem dL_law_2045 : decode cL_law 2045 = .ok (.invokevirtual 244, 3) := by decide +kernel
theorem dL_law_2048 : decode cL_law 2048 = .ok (.if_icmp .eq 31, 3) := by decide +kernel
theorem dL_law_2051 : decode cL_law 2051 = .ok (.iconst 0, 1) := by decide +kernel
theorem dL_law_2052 : decode cL_law 2052 = .ok (.ireturn, 1) := by decide +kernel
theorem dL_law_2053 : decode cL_law 2053 = .ok (.aload_n 1, 1) := by decide +kernel
theorem dL_law_2054 : decode cL_law 2054 = .ok (.invokevirtual 245, 3) := by decide +kernel
theorem dL_law_2057 : decode cL_law 2057 = .ok (.aload_n 2, 1) := by decide +kernel
theorem dL_law_2058 : decode cL_law 2058 = .ok (.invokevirtual 248, 3) := by decide +kernel
theorem dL_law_2061 : decode cL_law 2061 = .ok (.if_icmp .eq 18, 3) := by decide +kernel
theorem dL_law_2064 : decode cL_law 2064 = .ok (.iconst 0, 1) := by decide +kernel
theorem dL_law_2065 : decode cL_law 2065 = .ok (.ireturn, 1) := by decide +kernel
theorem dL_law_2066 : decode cL_law 2066 = .ok (.aload_n 1, 1) := by decide +kernel
theorem dL_law_2067 : decode cL_law 2067 = .ok (.invokevirtual 249, 3) := by decide +kernel
theorem dL_law_2070 : decode cL_law 2070 = .ok (.aload_n 2, 1) := by decide +kernel
theorem dL_law_2071 : decode cL_law 2071 = .ok (.invokevirtual 252, 3) := by decide +kernel
theorem dL_law_2074 : decode cL_law 2074 = .ok (.if_icmp .eq 5, 3) := by decide +kernel
theorem dL_law_2077 : decode cL_law 2077 = .ok (.iconst 0, 1) := by decide +kernel
theorem dL_law_2078 : decode cL_law 2078 = .ok (.ireturn, 1) := by decide +kernel
theorem dL_law_2079 : decode cL_law 2079 = .ok (.iinc 3 6, 3) := by decide +kernel
theorem dL_law_2082 : decode cL_law 2082 = .ok (.goto (-2064), 3) := by decide +kernel
theorem dL_law_2085 : decode cL_law 2085 = .ok (.iconst 1, 1) := by decide +kernel
theorem dL_law_2086 : decode cL_law 2086 = .ok (.ireturn, 1) := by decide +kernel
set_option maxRecDepth 100000 in
def f_L_law_2079 (k18 : Nat → Nat → Int32 → dtM → Option (Int32 × dtM)) (l1 : Nat) (l2 : Nat) (l3 : Int32) (μ : dtM) : Option (Int32 × dtM) :=
  k18 l1 l2 (l3 + 6) μ
set_option maxRecDepth 100000 in
def f_L_law_272 (k18 : Nat → Nat → Int32 → dtM → Option (Int32 × dtM)) (l1 : Nat) (l2 : Nat) (l3 : Int32) (μ : dtM) : Option (Int32 × dtM) :=
  (opRv 11 μ l1).bind fun _ => opCall (f_X11_status l1 μ) fun x4 μ2 => (opRv 12 μ2 l2).bind fun _ => opCall (f_X12_status l2 μ2) fun x8 μ6 => if x4 = x8 then (f_L_law_2079 k18 l1 l2 l3 μ6) else (opRet (0 : Int32) μ6)
set_option maxRecDepth 100000 in
def f_L_law_285 (k18 : Nat → Nat → Int32 → dtM → Option (Int32 × dtM)) (l1 : Nat) (l2 : Nat) (l3 : Int32) (μ : dtM) : Option (Int32 × dtM) :=
  (opRv 11 μ l1).bind fun _ => opCall (f_X11_top l1 μ) fun x4 μ2 => (opRv 12 μ2 l2).bind fun _ => opCall (f_X12_top l2 μ2) fun x8 μ6 => if (lg_cmp x4 x8) = 0 then (f_L_law_2079 k18 l1 l2 l3 μ6) else (opRet (0 : Int32) μ6)
set_option maxRecDepth 100000 in
def f_L_law_299 (k18 : Nat → Nat → Int32 → dtM → Option (Int32 × dtM)) (l1 : Nat) (l2 : Nat) (l3 : Int32) (μ : dtM) : Option (Int32 × dtM) :=
  (opRv 11 μ l1).bind fun _ => opCall (f_X11_bottom l1 μ) fun x4 μ2 => (opRv 12 μ2 l2).bind fun _ => opCall (f_X12_bottom l2 μ2) fun x8 μ6 => if (lg_cmp x4 x8) = 0 then (f_L_law_2079 k18 l1 l2 l3 μ6) else (opRet (0 : Int32) μ6)
set_option maxRecDepth 100000 in
def f_L_law_313 (k18 : Nat → Nat → Int32 → dtM → Option (Int32 × dtM)) (l1 : Nat) (l2 : Nat) (l3 : Int32) (μ : dtM) : Option (Int32 × dtM) :=
  (opScr μ (l3 + (1 : Int32))).bind fun x1 => (opScr μ (l3 + (2 : Int32))).bind fun x3 => (opScr μ (l3 + (3 : Int32))).bind fun x5 => (opRv 11 μ l1).bind fun _ => opCall (f_X11_tray l1 x1 x3 x5 μ) fun x10 μ8 => (opScr μ8 (l3 + (1 : Int32))).bind fun x11 => (opScr μ8 (l3 + (2 : Int32))).bind fun x13 => (opScr μ8 (l3 + (3 : Int32))).bind fun x15 => (opRv 12 μ8 l2).bind fun _ => opCall (f_X12_tray l2 x11 x13 x15 μ8) fun x20 μ18 => if x10 = x20 then (f_L_law_2079 k18 l1 l2 l3 μ18) else (opRet (0 : Int32) μ18)
set_option maxRecDepth 100000 in
def f_L_law_356 (k18 : Nat → Nat → Int32 → dtM → Option (Int32 × dtM)) (l1 : Nat) (l2 : Nat) (l3 : Int32) (μ : dtM) : Option (Int32 × dtM) :=
  (opScr μ (l3 + (1 : Int32))).bind fun x1 => (opScr μ (l3 + (2 : Int32))).bind fun x3 => (opScr μ (l3 + (3 : Int32))).bind fun x5 => (opScr μ (l3 + (4 : Int32))).bind fun x7 => (opRv 11 μ l1).bind fun _ => opCall (f_X11_write l1 x1 x3 (((x5.toInt64) <<< ((32 : Int32).toInt64 &&& 63)) ||| ((x7.toInt64) &&& (4294967295 : Int64))) μ) fun x12 μ10 => (opScr μ10 (l3 + (1 : Int32))).bind fun x13 => (opScr μ10 (l3 + (2 : Int32))).bind fun x15 => (opScr μ10 (l3 + (3 : Int32))).bind fun x17 => (opScr μ10 (l3 + (4 : Int32))).bind fun x19 => (opRv 12 μ10 l2).bind fun _ => opCall (f_X12_write l2 x13 x15 (((x17.toInt64) <<< ((32 : Int32).toInt64 &&& 63)) ||| ((x19.toInt64) &&& (4294967295 : Int64))) μ10) fun x24 μ22 => if x12 = x24 then (f_L_law_2079 k18 l1 l2 l3 μ22) else (opRet (0 : Int32) μ22)
set_option maxRecDepth 100000 in
def f_L_law_429 (k18 : Nat → Nat → Int32 → dtM → Option (Int32 × dtM)) (l1 : Nat) (l2 : Nat) (l3 : Int32) (μ : dtM) : Option (Int32 × dtM) :=
  (opScr μ (l3 + (1 : Int32))).bind fun x1 => (opScr μ (l3 + (2 : Int32))).bind fun x3 => (opRv 11 μ l1).bind fun _ => opCall (f_X11_read l1 x1 x3 μ) fun x8 μ6 => (opScr μ6 (l3 + (1 : Int32))).bind fun x9 => (opScr μ6 (l3 + (2 : Int32))).bind fun x11 => (opRv 12 μ6 l2).bind fun _ => opCall (f_X12_read l2 x9 x11 μ6) fun x16 μ14 => if (lg_cmp x8 x16) = 0 then (f_L_law_2079 k18 l1 l2 l3 μ14) else (opRet (0 : Int32) μ14)
set_option maxRecDepth 100000 in
def f_L_law_463 (k18 : Nat → Nat → Int32 → dtM → Option (Int32 × dtM)) (l1 : Nat) (l2 : Nat) (l3 : Int32) (μ : dtM) : Option (Int32 × dtM) :=
  (opScr μ (l3 + (1 : Int32))).bind fun x1 => (opScr μ (l3 + (2 : Int32))).bind fun x3 => (opScr μ (l3 + (3 : Int32))).bind fun x5 => (opScr μ (l3 + (4 : Int32))).bind fun x7 => (opScr μ (l3 + (5 : Int32))).bind fun x9 => (opRv 11 μ l1).bind fun _ => opCall (f_X11_pour l1 x1 x3 x5 x7 x9 μ) fun x14 μ12 => (opScr μ12 (l3 + (1 : Int32))).bind fun x15 => (opScr μ12 (l3 + (2 : Int32))).bind fun x17 => (opScr μ12 (l3 + (3 : Int32))).bind fun x19 => (opScr μ12 (l3 + (4 : Int32))).bind fun x21 => (opScr μ12 (l3 + (5 : Int32))).bind fun x23 => (opRv 12 μ12 l2).bind fun _ => opCall (f_X12_pour l2 x15 x17 x19 x21 x23 μ12) fun x28 μ26 => if x14 = x28 then (f_L_law_2079 k18 l1 l2 l3 μ26) else (opRet (0 : Int32) μ26)
set_option maxRecDepth 100000 in
def f_L_law_526 (k18 : Nat → Nat → Int32 → dtM → Option (Int32 × dtM)) (l1 : Nat) (l2 : Nat) (l3 : Int32) (μ : dtM) : Option (Int32 × dtM) :=
  (opScr μ (l3 + (1 : Int32))).bind fun x1 => (opScr μ (l3 + (2 : Int32))).bind fun x3 => (opScr μ (l3 + (3 : Int32))).bind fun x5 => (opScr μ (l3 + (4 : Int32))).bind fun x7 => (opScr μ (l3 + (5 : Int32))).bind fun x9 => (opRv 11 μ l1).bind fun _ => opCall (f_X11_feed l1 x1 x3 x5 x7 x9 μ) fun x14 μ12 => (opScr μ12 (l3 + (1 : Int32))).bind fun x15 => (opScr μ12 (l3 + (2 : Int32))).bind fun x17 => (opScr μ12 (l3 + (3 : Int32))).bind fun x19 => (opScr μ12 (l3 + (4 : Int32))).bind fun x21 => (opScr μ12 (l3 + (5 : Int32))).bind fun x23 => (opRv 12 μ12 l2).bind fun _ => opCall (f_X12_feed l2 x15 x17 x19 x21 x23 μ12) fun x28 μ26 => if x14 = x28 then (f_L_law_2079 k18 l1 l2 l3 μ26) else (opRet (0 : Int32) μ26)
set_option maxRecDepth 100000 in
def f_L_law_589 (k18 : Nat → Nat → Int32 → dtM → Option (Int32 × dtM)) (l1 : Nat) (l2 : Nat) (l3 : Int32) (μ : dtM) : Option (Int32 × dtM) :=
  (opScr μ (l3 + (1 : Int32))).bind fun x1 => (opRv 11 μ l1).bind fun _ => opCall (f_X11_house l1 x1 μ) fun x6 μ4 => (opScr μ4 (l3 + (1 : Int32))).bind fun x7 => (opRv 12 μ4 l2).bind fun _ => opCall (f_X12_house l2 x7 μ4) fun x12 μ10 => if x6 = x12 then (f_L_law_2079 k18 l1 l2 l3 μ10) else (opRet (0 : Int32) μ10)
set_option maxRecDepth 100000 in
def f_L_law_612 (k18 : Nat → Nat → Int32 → dtM → Option (Int32 × dtM)) (l1 : Nat) (l2 : Nat) (l3 : Int32) (μ : dtM) : Option (Int32 × dtM) :=
  (opScr μ (l3 + (1 : Int32))).bind fun x1 => (opRv 11 μ l1).bind fun _ => opCall (f_X11_days l1 x1 μ) fun x6 μ4 => (opScr μ4 (l3 + (1 : Int32))).bind fun x7 => (opRv 12 μ4 l2).bind fun _ => opCall (f_X12_days l2 x7 μ4) fun x12 μ10 => if x6 = x12 then (f_L_law_2079 k18 l1 l2 l3 μ10) else (opRet (0 : Int32) μ10)
set_option maxRecDepth 100000 in
def f_L_law_635 (k18 : Nat → Nat → Int32 → dtM → Option (Int32 × dtM)) (l1 : Nat) (l2 : Nat) (l3 : Int32) (μ : dtM) : Option (Int32 × dtM) :=
  (opScr μ (l3 + (1 : Int32))).bind fun x1 => (opRv 11 μ l1).bind fun _ => opCall (f_X11_fault l1 x1 μ) fun x6 μ4 => (opScr μ4 (l3 + (1 : Int32))).bind fun x7 => (opRv 12 μ4 l2).bind fun _ => opCall (f_X12_fault l2 x7 μ4) fun x12 μ10 => if x6 = x12 then (f_L_law_2079 k18 l1 l2 l3 μ10) else (opRet (0 : Int32) μ10)
set_option maxRecDepth 100000 in
def f_L_law_658 (k18 : Nat → Nat → Int32 → dtM → Option (Int32 × dtM)) (l1 : Nat) (l2 : Nat) (l3 : Int32) (μ : dtM) : Option (Int32 × dtM) :=
  (opScr μ (l3 + (1 : Int32))).bind fun x1 => (opRv 11 μ l1).bind fun _ => opCall (f_X11_told l1 x1 μ) fun x6 μ4 => (opScr μ4 (l3 + (1 : Int32))).bind fun x7 => (opRv 12 μ4 l2).bind fun _ => opCall (f_X12_told l2 x7 μ4) fun x12 μ10 => if x6 = x12 then (f_L_law_2079 k18 l1 l2 l3 μ10) else (opRet (0 : Int32) μ10)
set_option maxRecDepth 100000 in
def f_L_law_681 (k18 : Nat → Nat → Int32 → dtM → Option (Int32 × dtM)) (l1 : Nat) (l2 : Nat) (l3 : Int32) (μ : dtM) : Option (Int32 × dtM) :=
  (opScr μ (l3 + (1 : Int32))).bind fun x1 => (opScr μ (l3 + (2 : Int32))).bind fun x3 => (opRv 11 μ l1).bind fun _ => opCall (f_X11_door l1 x1 x3 μ) fun x8 μ6 => (opScr μ6 (l3 + (1 : Int32))).bind fun x9 => (opScr μ6 (l3 + (2 : Int32))).bind fun x11 => (opRv 12 μ6 l2).bind fun _ => opCall (f_X12_door l2 x9 x11 μ6) fun x16 μ14 => if x8 = x16 then (f_L_law_2079 k18 l1 l2 l3 μ14) else (opRet (0 : Int32) μ14)
set_option maxRecDepth 100000 in
def f_L_law_714 (k18 : Nat → Nat → Int32 → dtM → Option (Int32 × dtM)) (l1 : Nat) (l2 : Nat) (l3 : Int32) (μ : dtM) : Option (Int32 × dtM) :=
  (opScr μ (l3 + (1 : Int32))).bind fun x1 => (opRv 11 μ l1).bind fun _ => opCall (f_X11_says l1 x1 μ) fun x6 μ4 => (opScr μ4 (l3 + (1 : Int32))).bind fun x7 => (opRv 12 μ4 l2).bind fun _ => opCall (f_X12_says l2 x7 μ4) fun x12 μ10 => if x6 = x12 then (f_L_law_2079 k18 l1 l2 l3 μ10) else (opRet (0 : Int32) μ10)
set_option maxRecDepth 100000 in
def f_L_law_737 (k18 : Nat → Nat → Int32 → dtM → Option (Int32 × dtM)) (l1 : Nat) (l2 : Nat) (l3 : Int32) (μ : dtM) : Option (Int32 × dtM) :=
  (opScr μ (l3 + (1 : Int32))).bind fun x1 => (opScr μ (l3 + (2 : Int32))).bind fun x3 => (opRv 11 μ l1).bind fun _ => opCall (f_X11_saysAt l1 x1 x3 μ) fun x8 μ6 => (opScr μ6 (l3 + (1 : Int32))).bind fun x9 => (opScr μ6 (l3 + (2 : Int32))).bind fun x11 => (opRv 12 μ6 l2).bind fun _ => opCall (f_X12_saysAt l2 x9 x11 μ6) fun x16 μ14 => if x8 = x16 then (f_L_law_2079 k18 l1 l2 l3 μ14) else (opRet (0 : Int32) μ14)
set_option maxRecDepth 100000 in
def f_L_law_770 (k18 : Nat → Nat → Int32 → dtM → Option (Int32 × dtM)) (l1 : Nat) (l2 : Nat) (l3 : Int32) (μ : dtM) : Option (Int32 × dtM) :=
  (opScr μ (l3 + (1 : Int32))).bind fun x1 => (opScr μ (l3 + (2 : Int32))).bind fun x3 => (opRv 11 μ l1).bind fun _ => opCall (f_X11_person l1 x1 x3 μ) fun x8 μ6 => (opScr μ6 (l3 + (1 : Int32))).bind fun x9 => (opScr μ6 (l3 + (2 : Int32))).bind fun x11 => (opRv 12 μ6 l2).bind fun _ => opCall (f_X12_person l2 x9 x11 μ6) fun x16 μ14 => if x8 = x16 then (f_L_law_2079 k18 l1 l2 l3 μ14) else (opRet (0 : Int32) μ14)
set_option maxRecDepth 100000 in
def f_L_law_803 (k18 : Nat → Nat → Int32 → dtM → Option (Int32 × dtM)) (l1 : Nat) (l2 : Nat) (l3 : Int32) (μ : dtM) : Option (Int32 × dtM) :=
  (opScr μ (l3 + (1 : Int32))).bind fun x1 => (opScr μ (l3 + (2 : Int32))).bind fun x3 => (opRv 11 μ l1).bind fun _ => opCall (f_X11_heardAt l1 x1 x3 μ) fun x8 μ6 => (opScr μ6 (l3 + (1 : Int32))).bind fun x9 => (opScr μ6 (l3 + (2 : Int32))).bind fun x11 => (opRv 12 μ6 l2).bind fun _ => opCall (f_X12_heardAt l2 x9 x11 μ6) fun x16 μ14 => if x8 = x16 then (f_L_law_2079 k18 l1 l2 l3 μ14) else (opRet (0 : Int32) μ14)
set_option maxRecDepth 100000 in
def f_L_law_836 (k18 : Nat → Nat → Int32 → dtM → Option (Int32 × dtM)) (l1 : Nat) (l2 : Nat) (l3 : Int32) (μ : dtM) : Option (Int32 × dtM) :=
  (opScr μ (l3 + (1 : Int32))).bind fun x1 => (opScr μ (l3 + (2 : Int32))).bind fun x3 => (opScr μ (l3 + (3 : Int32))).bind fun x5 => (opRv 11 μ l1).bind fun _ => opCall (f_X11_close l1 x1 x3 x5 μ) fun x10 μ8 => (opScr μ8 (l3 + (1 : Int32))).bind fun x11 => (opScr μ8 (l3 + (2 : Int32))).bind fun x13 => (opScr μ8 (l3 + (3 : Int32))).bind fun x15 => (opRv 12 μ8 l2).bind fun _ => opCall (f_X12_close l2 x11 x13 x15 μ8) fun x20 μ18 => if x10 = x20 then (f_L_law_2079 k18 l1 l2 l3 μ18) else (opRet (0 : Int32) μ18)
set_option maxRecDepth 100000 in
def f_L_law_879 (k18 : Nat → Nat → Int32 → dtM → Option (Int32 × dtM)) (l1 : Nat) (l2 : Nat) (l3 : Int32) (μ : dtM) : Option (Int32 × dtM) :=
  (opScr μ (l3 + (1 : Int32))).bind fun x1 => (opScr μ (l3 + (2 : Int32))).bind fun x3 => (opRv 11 μ l1).bind fun _ => opCall (f_X11_open l1 x1 x3 μ) fun x8 μ6 => (opScr μ6 (l3 + (1 : Int32))).bind fun x9 => (opScr μ6 (l3 + (2 : Int32))).bind fun x11 => (opRv 12 μ6 l2).bind fun _ => opCall (f_X12_open l2 x9 x11 μ6) fun x16 μ14 => if x8 = x16 then (f_L_law_2079 k18 l1 l2 l3 μ14) else (opRet (0 : Int32) μ14)
set_option maxRecDepth 100000 in
def f_L_law_912 (k18 : Nat → Nat → Int32 → dtM → Option (Int32 × dtM)) (l1 : Nat) (l2 : Nat) (l3 : Int32) (μ : dtM) : Option (Int32 × dtM) :=
  (opScr μ (l3 + (1 : Int32))).bind fun x1 => (opScr μ (l3 + (2 : Int32))).bind fun x3 => (opRv 11 μ l1).bind fun _ => opCall (f_X11_go l1 x1 x3 μ) fun x8 μ6 => (opScr μ6 (l3 + (1 : Int32))).bind fun x9 => (opScr μ6 (l3 + (2 : Int32))).bind fun x11 => (opRv 12 μ6 l2).bind fun _ => opCall (f_X12_go l2 x9 x11 μ6) fun x16 μ14 => if x8 = x16 then (f_L_law_2079 k18 l1 l2 l3 μ14) else (opRet (0 : Int32) μ14)
set_option maxRecDepth 100000 in
def f_L_law_945 (k18 : Nat → Nat → Int32 → dtM → Option (Int32 × dtM)) (l1 : Nat) (l2 : Nat) (l3 : Int32) (μ : dtM) : Option (Int32 × dtM) :=
  (opScr μ (l3 + (1 : Int32))).bind fun x1 => (opRv 11 μ l1).bind fun _ => opCall (f_X11_forget l1 x1 μ) fun x6 μ4 => (opScr μ4 (l3 + (1 : Int32))).bind fun x7 => (opRv 12 μ4 l2).bind fun _ => opCall (f_X12_forget l2 x7 μ4) fun x12 μ10 => if x6 = x12 then (f_L_law_2079 k18 l1 l2 l3 μ10) else (opRet (0 : Int32) μ10)
set_option maxRecDepth 100000 in
def f_L_law_1019 (k18 : Nat → Nat → Int32 → dtM → Option (Int32 × dtM)) (l1 : Nat) (l2 : Nat) (l3 : Int32) (s0 : Int32) (s1 : Nat) (s2 : Int32) (s3 : Int32) (s4 : Int32) (μ : dtM) : Option (Int32 × dtM) :=
  (opRv 12 μ s1).bind fun _ => opCall (f_X12_teach s1 s2 s3 s4 μ) fun x4 μ2 => if s0 = x4 then (f_L_law_2079 k18 l1 l2 l3 μ2) else (opRet (0 : Int32) μ2)
set_option maxRecDepth 100000 in
def f_L_law_992 (k18 : Nat → Nat → Int32 → dtM → Option (Int32 × dtM)) (l1 : Nat) (l2 : Nat) (l3 : Int32) (s0 : Nat) (s1 : Int32) (s2 : Int32) (s3 : Int32) (μ : dtM) : Option (Int32 × dtM) :=
  (opRv 11 μ s0).bind fun _ => opCall (f_X11_teach s0 s1 s2 s3 μ) fun x4 μ2 => (opScr μ2 (l3 + (1 : Int32))).bind fun x5 => (opScr μ2 (l3 + (2 : Int32))).bind fun x7 => (opScr μ2 (l3 + (3 : Int32))).bind fun x9 => if x9 = 0 then (f_L_law_1019 k18 l1 l2 l3 x4 l2 x5 x7 (0 : Int32) μ2) else (f_L_law_1019 k18 l1 l2 l3 x4 l2 x5 x7 (1 : Int32) μ2)
set_option maxRecDepth 100000 in
def f_L_law_968 (k18 : Nat → Nat → Int32 → dtM → Option (Int32 × dtM)) (l1 : Nat) (l2 : Nat) (l3 : Int32) (μ : dtM) : Option (Int32 × dtM) :=
  (opScr μ (l3 + (1 : Int32))).bind fun x1 => (opScr μ (l3 + (2 : Int32))).bind fun x3 => (opScr μ (l3 + (3 : Int32))).bind fun x5 => if x5 = 0 then (f_L_law_992 k18 l1 l2 l3 l1 x1 x3 (0 : Int32) μ) else (f_L_law_992 k18 l1 l2 l3 l1 x1 x3 (1 : Int32) μ)
set_option maxRecDepth 100000 in
def f_L_law_1027 (k18 : Nat → Nat → Int32 → dtM → Option (Int32 × dtM)) (l1 : Nat) (l2 : Nat) (l3 : Int32) (μ : dtM) : Option (Int32 × dtM) :=
  (opScr μ (l3 + (1 : Int32))).bind fun x1 => (opScr μ (l3 + (2 : Int32))).bind fun x3 => (opRv 11 μ l1).bind fun _ => opCall (f_X11_coin l1 x1 x3 μ) fun x8 μ6 => (opScr μ6 (l3 + (1 : Int32))).bind fun x9 => (opScr μ6 (l3 + (2 : Int32))).bind fun x11 => (opRv 12 μ6 l2).bind fun _ => opCall (f_X12_coin l2 x9 x11 μ6) fun x16 μ14 => if x8 = x16 then (f_L_law_2079 k18 l1 l2 l3 μ14) else (opRet (0 : Int32) μ14)
set_option maxRecDepth 100000 in
def f_L_law_1060 (k18 : Nat → Nat → Int32 → dtM → Option (Int32 × dtM)) (l1 : Nat) (l2 : Nat) (l3 : Int32) (μ : dtM) : Option (Int32 × dtM) :=
  (opScr μ (l3 + (1 : Int32))).bind fun x1 => (opRv 11 μ l1).bind fun _ => opCall (f_X11_come l1 x1 μ) fun x6 μ4 => (opScr μ4 (l3 + (1 : Int32))).bind fun x7 => (opRv 12 μ4 l2).bind fun _ => opCall (f_X12_come l2 x7 μ4) fun x12 μ10 => if x6 = x12 then (f_L_law_2079 k18 l1 l2 l3 μ10) else (opRet (0 : Int32) μ10)
set_option maxRecDepth 100000 in
def f_L_law_1083 (k18 : Nat → Nat → Int32 → dtM → Option (Int32 × dtM)) (l1 : Nat) (l2 : Nat) (l3 : Int32) (μ : dtM) : Option (Int32 × dtM) :=
  (opScr μ (l3 + (1 : Int32))).bind fun x1 => (opScr μ (l3 + (2 : Int32))).bind fun x3 => (opRv 11 μ l1).bind fun _ => opCall (f_X11_line l1 x1 x3 μ) fun x8 μ6 => (opScr μ6 (l3 + (1 : Int32))).bind fun x9 => (opScr μ6 (l3 + (2 : Int32))).bind fun x11 => (opRv 12 μ6 l2).bind fun _ => opCall (f_X12_line l2 x9 x11 μ6) fun x16 μ14 => if x8 = x16 then (f_L_law_2079 k18 l1 l2 l3 μ14) else (opRet (0 : Int32) μ14)
set_option maxRecDepth 100000 in
def f_L_law_1116 (k18 : Nat → Nat → Int32 → dtM → Option (Int32 × dtM)) (l1 : Nat) (l2 : Nat) (l3 : Int32) (μ : dtM) : Option (Int32 × dtM) :=
  (opScr μ (l3 + (1 : Int32))).bind fun x1 => (opScr μ (l3 + (2 : Int32))).bind fun x3 => (opRv 11 μ l1).bind fun _ => opCall (f_X11_deafen l1 x1 x3 μ) fun x8 μ6 => (opScr μ6 (l3 + (1 : Int32))).bind fun x9 => (opScr μ6 (l3 + (2 : Int32))).bind fun x11 => (opRv 12 μ6 l2).bind fun _ => opCall (f_X12_deafen l2 x9 x11 μ6) fun x16 μ14 => if x8 = x16 then (f_L_law_2079 k18 l1 l2 l3 μ14) else (opRet (0 : Int32) μ14)
set_option maxRecDepth 100000 in
def f_L_law_1149 (k18 : Nat → Nat → Int32 → dtM → Option (Int32 × dtM)) (l1 : Nat) (l2 : Nat) (l3 : Int32) (μ : dtM) : Option (Int32 × dtM) :=
  (opScr μ (l3 + (1 : Int32))).bind fun x1 => (opRv 11 μ l1).bind fun _ => opCall (f_X11_rule l1 x1 μ) fun x6 μ4 => (opScr μ4 (l3 + (1 : Int32))).bind fun x7 => (opRv 12 μ4 l2).bind fun _ => opCall (f_X12_rule l2 x7 μ4) fun x12 μ10 => if x6 = x12 then (f_L_law_2079 k18 l1 l2 l3 μ10) else (opRet (0 : Int32) μ10)
set_option maxRecDepth 100000 in
def f_L_law_1172 (k18 : Nat → Nat → Int32 → dtM → Option (Int32 × dtM)) (l1 : Nat) (l2 : Nat) (l3 : Int32) (μ : dtM) : Option (Int32 × dtM) :=
  (opScr μ (l3 + (1 : Int32))).bind fun x1 => (opScr μ (l3 + (2 : Int32))).bind fun x3 => (opRv 11 μ l1).bind fun _ => opCall (f_X11_loss l1 x1 x3 μ) fun x8 μ6 => (opScr μ6 (l3 + (1 : Int32))).bind fun x9 => (opScr μ6 (l3 + (2 : Int32))).bind fun x11 => (opRv 12 μ6 l2).bind fun _ => opCall (f_X12_loss l2 x9 x11 μ6) fun x16 μ14 => if x8 = x16 then (f_L_law_2079 k18 l1 l2 l3 μ14) else (opRet (0 : Int32) μ14)
set_option maxRecDepth 100000 in
def f_L_law_1205 (k18 : Nat → Nat → Int32 → dtM → Option (Int32 × dtM)) (l1 : Nat) (l2 : Nat) (l3 : Int32) (μ : dtM) : Option (Int32 × dtM) :=
  (opScr μ (l3 + (1 : Int32))).bind fun x1 => (opScr μ (l3 + (2 : Int32))).bind fun x3 => (opRv 11 μ l1).bind fun _ => opCall (f_X11_hearers l1 x1 x3 μ) fun x8 μ6 => (opScr μ6 (l3 + (1 : Int32))).bind fun x9 => (opScr μ6 (l3 + (2 : Int32))).bind fun x11 => (opRv 12 μ6 l2).bind fun _ => opCall (f_X12_hearers l2 x9 x11 μ6) fun x16 μ14 => if x8 = x16 then (f_L_law_2079 k18 l1 l2 l3 μ14) else (opRet (0 : Int32) μ14)
set_option maxRecDepth 100000 in
def f_L_law_1238 (k18 : Nat → Nat → Int32 → dtM → Option (Int32 × dtM)) (l1 : Nat) (l2 : Nat) (l3 : Int32) (μ : dtM) : Option (Int32 × dtM) :=
  (opScr μ (l3 + (1 : Int32))).bind fun x1 => (opScr μ (l3 + (2 : Int32))).bind fun x3 => (opRv 11 μ l1).bind fun _ => opCall (f_X11_hears l1 x1 x3 μ) fun x8 μ6 => (opScr μ6 (l3 + (1 : Int32))).bind fun x9 => (opScr μ6 (l3 + (2 : Int32))).bind fun x11 => (opRv 12 μ6 l2).bind fun _ => opCall (f_X12_hears l2 x9 x11 μ6) fun x16 μ14 => if x8 = x16 then (f_L_law_2079 k18 l1 l2 l3 μ14) else (opRet (0 : Int32) μ14)
set_option maxRecDepth 100000 in
def f_L_law_1271 (k18 : Nat → Nat → Int32 → dtM → Option (Int32 × dtM)) (l1 : Nat) (l2 : Nat) (l3 : Int32) (μ : dtM) : Option (Int32 × dtM) :=
  (opScr μ (l3 + (1 : Int32))).bind fun x1 => (opScr μ (l3 + (2 : Int32))).bind fun x3 => (opScr μ (l3 + (3 : Int32))).bind fun x5 => (opRv 11 μ l1).bind fun _ => opCall (f_X11_hush l1 x1 x3 x5 μ) fun x10 μ8 => (opScr μ8 (l3 + (1 : Int32))).bind fun x11 => (opScr μ8 (l3 + (2 : Int32))).bind fun x13 => (opScr μ8 (l3 + (3 : Int32))).bind fun x15 => (opRv 12 μ8 l2).bind fun _ => opCall (f_X12_hush l2 x11 x13 x15 μ8) fun x20 μ18 => if x10 = x20 then (f_L_law_2079 k18 l1 l2 l3 μ18) else (opRet (0 : Int32) μ18)
set_option maxRecDepth 100000 in
def f_L_law_1314 (k18 : Nat → Nat → Int32 → dtM → Option (Int32 × dtM)) (l1 : Nat) (l2 : Nat) (l3 : Int32) (μ : dtM) : Option (Int32 × dtM) :=
  (opScr μ (l3 + (1 : Int32))).bind fun x1 => (opScr μ (l3 + (2 : Int32))).bind fun x3 => (opScr μ (l3 + (3 : Int32))).bind fun x5 => (opScr μ (l3 + (4 : Int32))).bind fun x7 => (opRv 11 μ l1).bind fun _ => opCall (f_X11_secret l1 x1 x3 x5 x7 μ) fun x12 μ10 => (opScr μ10 (l3 + (1 : Int32))).bind fun x13 => (opScr μ10 (l3 + (2 : Int32))).bind fun x15 => (opScr μ10 (l3 + (3 : Int32))).bind fun x17 => (opScr μ10 (l3 + (4 : Int32))).bind fun x19 => (opRv 12 μ10 l2).bind fun _ => opCall (f_X12_secret l2 x13 x15 x17 x19 μ10) fun x24 μ22 => if x12 = x24 then (f_L_law_2079 k18 l1 l2 l3 μ22) else (opRet (0 : Int32) μ22)
set_option maxRecDepth 100000 in
def f_L_law_1367 (k18 : Nat → Nat → Int32 → dtM → Option (Int32 × dtM)) (l1 : Nat) (l2 : Nat) (l3 : Int32) (μ : dtM) : Option (Int32 × dtM) :=
  (opScr μ (l3 + (1 : Int32))).bind fun x1 => (opRv 11 μ l1).bind fun _ => opCall (f_X11_readings l1 x1 μ) fun x6 μ4 => (opScr μ4 (l3 + (1 : Int32))).bind fun x7 => (opRv 12 μ4 l2).bind fun _ => opCall (f_X12_readings l2 x7 μ4) fun x12 μ10 => if x6 = x12 then (f_L_law_2079 k18 l1 l2 l3 μ10) else (opRet (0 : Int32) μ10)
set_option maxRecDepth 100000 in
def f_L_law_1390 (k18 : Nat → Nat → Int32 → dtM → Option (Int32 × dtM)) (l1 : Nat) (l2 : Nat) (l3 : Int32) (μ : dtM) : Option (Int32 × dtM) :=
  (opScr μ (l3 + (1 : Int32))).bind fun x1 => (opRv 11 μ l1).bind fun _ => opCall (f_X11_first l1 x1 μ) fun x6 μ4 => (opScr μ4 (l3 + (1 : Int32))).bind fun x7 => (opRv 12 μ4 l2).bind fun _ => opCall (f_X12_first l2 x7 μ4) fun x12 μ10 => if x6 = x12 then (f_L_law_2079 k18 l1 l2 l3 μ10) else (opRet (0 : Int32) μ10)
set_option maxRecDepth 100000 in
def f_L_law_1413 (k18 : Nat → Nat → Int32 → dtM → Option (Int32 × dtM)) (l1 : Nat) (l2 : Nat) (l3 : Int32) (μ : dtM) : Option (Int32 × dtM) :=
  (opScr μ (l3 + (1 : Int32))).bind fun x1 => (opScr μ (l3 + (2 : Int32))).bind fun x3 => (opRv 11 μ l1).bind fun _ => opCall (f_X11_firstAt l1 x1 x3 μ) fun x8 μ6 => (opScr μ6 (l3 + (1 : Int32))).bind fun x9 => (opScr μ6 (l3 + (2 : Int32))).bind fun x11 => (opRv 12 μ6 l2).bind fun _ => opCall (f_X12_firstAt l2 x9 x11 μ6) fun x16 μ14 => if x8 = x16 then (f_L_law_2079 k18 l1 l2 l3 μ14) else (opRet (0 : Int32) μ14)
set_option maxRecDepth 100000 in
def f_L_law_1446 (k18 : Nat → Nat → Int32 → dtM → Option (Int32 × dtM)) (l1 : Nat) (l2 : Nat) (l3 : Int32) (μ : dtM) : Option (Int32 × dtM) :=
  (opScr μ (l3 + (1 : Int32))).bind fun x1 => (opScr μ (l3 + (2 : Int32))).bind fun x3 => (opScr μ (l3 + (3 : Int32))).bind fun x5 => (opRv 11 μ l1).bind fun _ => opCall (f_X11_means l1 x1 x3 x5 μ) fun x10 μ8 => (opScr μ8 (l3 + (1 : Int32))).bind fun x11 => (opScr μ8 (l3 + (2 : Int32))).bind fun x13 => (opScr μ8 (l3 + (3 : Int32))).bind fun x15 => (opRv 12 μ8 l2).bind fun _ => opCall (f_X12_means l2 x11 x13 x15 μ8) fun x20 μ18 => if x10 = x20 then (f_L_law_2079 k18 l1 l2 l3 μ18) else (opRet (0 : Int32) μ18)
set_option maxRecDepth 100000 in
def f_L_law_1489 (k18 : Nat → Nat → Int32 → dtM → Option (Int32 × dtM)) (l1 : Nat) (l2 : Nat) (l3 : Int32) (μ : dtM) : Option (Int32 × dtM) :=
  (opScr μ (l3 + (1 : Int32))).bind fun x1 => (opScr μ (l3 + (2 : Int32))).bind fun x3 => (opScr μ (l3 + (3 : Int32))).bind fun x5 => (opRv 11 μ l1).bind fun _ => opCall (f_X11_unsaid l1 x1 x3 x5 μ) fun x10 μ8 => (opScr μ8 (l3 + (1 : Int32))).bind fun x11 => (opScr μ8 (l3 + (2 : Int32))).bind fun x13 => (opScr μ8 (l3 + (3 : Int32))).bind fun x15 => (opRv 12 μ8 l2).bind fun _ => opCall (f_X12_unsaid l2 x11 x13 x15 μ8) fun x20 μ18 => if x10 = x20 then (f_L_law_2079 k18 l1 l2 l3 μ18) else (opRet (0 : Int32) μ18)
set_option maxRecDepth 100000 in
def f_L_law_1532 (k18 : Nat → Nat → Int32 → dtM → Option (Int32 × dtM)) (l1 : Nat) (l2 : Nat) (l3 : Int32) (μ : dtM) : Option (Int32 × dtM) :=
  (opScr μ (l3 + (1 : Int32))).bind fun x1 => (opRv 11 μ l1).bind fun _ => opCall (f_X11_doubt l1 x1 μ) fun x6 μ4 => (opScr μ4 (l3 + (1 : Int32))).bind fun x7 => (opRv 12 μ4 l2).bind fun _ => opCall (f_X12_doubt l2 x7 μ4) fun x12 μ10 => if x6 = x12 then (f_L_law_2079 k18 l1 l2 l3 μ10) else (opRet (0 : Int32) μ10)
set_option maxRecDepth 100000 in
def f_L_law_1555 (k18 : Nat → Nat → Int32 → dtM → Option (Int32 × dtM)) (l1 : Nat) (l2 : Nat) (l3 : Int32) (μ : dtM) : Option (Int32 × dtM) :=
  (opScr μ (l3 + (1 : Int32))).bind fun x1 => (opScr μ (l3 + (2 : Int32))).bind fun x3 => (opRv 11 μ l1).bind fun _ => opCall (f_X11_doubtAt l1 x1 x3 μ) fun x8 μ6 => (opScr μ6 (l3 + (1 : Int32))).bind fun x9 => (opScr μ6 (l3 + (2 : Int32))).bind fun x11 => (opRv 12 μ6 l2).bind fun _ => opCall (f_X12_doubtAt l2 x9 x11 μ6) fun x16 μ14 => if x8 = x16 then (f_L_law_2079 k18 l1 l2 l3 μ14) else (opRet (0 : Int32) μ14)
set_option maxRecDepth 100000 in
def f_L_law_1588 (k18 : Nat → Nat → Int32 → dtM → Option (Int32 × dtM)) (l1 : Nat) (l2 : Nat) (l3 : Int32) (μ : dtM) : Option (Int32 × dtM) :=
  (opScr μ (l3 + (1 : Int32))).bind fun x1 => (opScr μ (l3 + (2 : Int32))).bind fun x3 => (opRv 11 μ l1).bind fun _ => opCall (f_X11_shared l1 x1 x3 μ) fun x8 μ6 => (opScr μ6 (l3 + (1 : Int32))).bind fun x9 => (opScr μ6 (l3 + (2 : Int32))).bind fun x11 => (opRv 12 μ6 l2).bind fun _ => opCall (f_X12_shared l2 x9 x11 μ6) fun x16 μ14 => if x8 = x16 then (f_L_law_2079 k18 l1 l2 l3 μ14) else (opRet (0 : Int32) μ14)
set_option maxRecDepth 100000 in
def f_L_law_1621 (k18 : Nat → Nat → Int32 → dtM → Option (Int32 × dtM)) (l1 : Nat) (l2 : Nat) (l3 : Int32) (μ : dtM) : Option (Int32 × dtM) :=
  (opScr μ (l3 + (1 : Int32))).bind fun x1 => (opScr μ (l3 + (2 : Int32))).bind fun x3 => (opRv 11 μ l1).bind fun _ => opCall (f_X11_far l1 x1 x3 μ) fun x8 μ6 => (opScr μ6 (l3 + (1 : Int32))).bind fun x9 => (opScr μ6 (l3 + (2 : Int32))).bind fun x11 => (opRv 12 μ6 l2).bind fun _ => opCall (f_X12_far l2 x9 x11 μ6) fun x16 μ14 => if x8 = x16 then (f_L_law_2079 k18 l1 l2 l3 μ14) else (opRet (0 : Int32) μ14)
set_option maxRecDepth 100000 in
def f_L_law_1654 (k18 : Nat → Nat → Int32 → dtM → Option (Int32 × dtM)) (l1 : Nat) (l2 : Nat) (l3 : Int32) (μ : dtM) : Option (Int32 × dtM) :=
  (opScr μ (l3 + (1 : Int32))).bind fun x1 => (opScr μ (l3 + (2 : Int32))).bind fun x3 => (opScr μ (l3 + (3 : Int32))).bind fun x5 => (opRv 11 μ l1).bind fun _ => opCall (f_X11_way l1 x1 x3 x5 μ) fun x10 μ8 => (opScr μ8 (l3 + (1 : Int32))).bind fun x11 => (opScr μ8 (l3 + (2 : Int32))).bind fun x13 => (opScr μ8 (l3 + (3 : Int32))).bind fun x15 => (opRv 12 μ8 l2).bind fun _ => opCall (f_X12_way l2 x11 x13 x15 μ8) fun x20 μ18 => if x10 = x20 then (f_L_law_2079 k18 l1 l2 l3 μ18) else (opRet (0 : Int32) μ18)
set_option maxRecDepth 100000 in
def f_L_law_1697 (k18 : Nat → Nat → Int32 → dtM → Option (Int32 × dtM)) (l1 : Nat) (l2 : Nat) (l3 : Int32) (μ : dtM) : Option (Int32 × dtM) :=
  (opScr μ (l3 + (1 : Int32))).bind fun x1 => (opRv 11 μ l1).bind fun _ => opCall (f_X11_part l1 x1 μ) fun x6 μ4 => (opScr μ4 (l3 + (1 : Int32))).bind fun x7 => (opRv 12 μ4 l2).bind fun _ => opCall (f_X12_part l2 x7 μ4) fun x12 μ10 => if x6 = x12 then (f_L_law_2079 k18 l1 l2 l3 μ10) else (opRet (0 : Int32) μ10)
set_option maxRecDepth 100000 in
def f_L_law_1720 (k18 : Nat → Nat → Int32 → dtM → Option (Int32 × dtM)) (l1 : Nat) (l2 : Nat) (l3 : Int32) (μ : dtM) : Option (Int32 × dtM) :=
  (opScr μ (l3 + (1 : Int32))).bind fun x1 => (opScr μ (l3 + (2 : Int32))).bind fun x3 => (opRv 11 μ l1).bind fun _ => opCall (f_X11_apart l1 x1 x3 μ) fun x8 μ6 => (opScr μ6 (l3 + (1 : Int32))).bind fun x9 => (opScr μ6 (l3 + (2 : Int32))).bind fun x11 => (opRv 12 μ6 l2).bind fun _ => opCall (f_X12_apart l2 x9 x11 μ6) fun x16 μ14 => if x8 = x16 then (f_L_law_2079 k18 l1 l2 l3 μ14) else (opRet (0 : Int32) μ14)
set_option maxRecDepth 100000 in
def f_L_law_1753 (k18 : Nat → Nat → Int32 → dtM → Option (Int32 × dtM)) (l1 : Nat) (l2 : Nat) (l3 : Int32) (μ : dtM) : Option (Int32 × dtM) :=
  (opScr μ (l3 + (1 : Int32))).bind fun x1 => (opScr μ (l3 + (2 : Int32))).bind fun x3 => (opRv 11 μ l1).bind fun _ => opCall (f_X11_apartSet l1 x1 x3 μ) fun x8 μ6 => (opScr μ6 (l3 + (1 : Int32))).bind fun x9 => (opScr μ6 (l3 + (2 : Int32))).bind fun x11 => (opRv 12 μ6 l2).bind fun _ => opCall (f_X12_apartSet l2 x9 x11 μ6) fun x16 μ14 => if x8 = x16 then (f_L_law_2079 k18 l1 l2 l3 μ14) else (opRet (0 : Int32) μ14)
set_option maxRecDepth 100000 in
def f_L_law_1786 (k18 : Nat → Nat → Int32 → dtM → Option (Int32 × dtM)) (l1 : Nat) (l2 : Nat) (l3 : Int32) (μ : dtM) : Option (Int32 × dtM) :=
  (opScr μ (l3 + (1 : Int32))).bind fun x1 => (opScr μ (l3 + (2 : Int32))).bind fun x3 => (opRv 11 μ l1).bind fun _ => opCall (f_X11_together l1 x1 x3 μ) fun x8 μ6 => (opScr μ6 (l3 + (1 : Int32))).bind fun x9 => (opScr μ6 (l3 + (2 : Int32))).bind fun x11 => (opRv 12 μ6 l2).bind fun _ => opCall (f_X12_together l2 x9 x11 μ6) fun x16 μ14 => if x8 = x16 then (f_L_law_2079 k18 l1 l2 l3 μ14) else (opRet (0 : Int32) μ14)
set_option maxRecDepth 100000 in
def f_L_law_1819 (k18 : Nat → Nat → Int32 → dtM → Option (Int32 × dtM)) (l1 : Nat) (l2 : Nat) (l3 : Int32) (μ : dtM) : Option (Int32 × dtM) :=
  (opScr μ (l3 + (1 : Int32))).bind fun x1 => (opScr μ (l3 + (2 : Int32))).bind fun x3 => (opRv 11 μ l1).bind fun _ => opCall (f_X11_culprits l1 x1 x3 μ) fun x8 μ6 => (opScr μ6 (l3 + (1 : Int32))).bind fun x9 => (opScr μ6 (l3 + (2 : Int32))).bind fun x11 => (opRv 12 μ6 l2).bind fun _ => opCall (f_X12_culprits l2 x9 x11 μ6) fun x16 μ14 => if x8 = x16 then (f_L_law_2079 k18 l1 l2 l3 μ14) else (opRet (0 : Int32) μ14)
set_option maxRecDepth 100000 in
def f_L_law_1852 (k18 : Nat → Nat → Int32 → dtM → Option (Int32 × dtM)) (l1 : Nat) (l2 : Nat) (l3 : Int32) (μ : dtM) : Option (Int32 × dtM) :=
  (opScr μ (l3 + (1 : Int32))).bind fun x1 => (opScr μ (l3 + (2 : Int32))).bind fun x3 => (opRv 11 μ l1).bind fun _ => opCall (f_X11_game l1 x1 x3 μ) fun x8 μ6 => (opScr μ6 (l3 + (1 : Int32))).bind fun x9 => (opScr μ6 (l3 + (2 : Int32))).bind fun x11 => (opRv 12 μ6 l2).bind fun _ => opCall (f_X12_game l2 x9 x11 μ6) fun x16 μ14 => if x8 = x16 then (f_L_law_2079 k18 l1 l2 l3 μ14) else (opRet (0 : Int32) μ14)
set_option maxRecDepth 100000 in
def f_L_law_1885 (k18 : Nat → Nat → Int32 → dtM → Option (Int32 × dtM)) (l1 : Nat) (l2 : Nat) (l3 : Int32) (μ : dtM) : Option (Int32 × dtM) :=
  (opScr μ (l3 + (1 : Int32))).bind fun x1 => (opScr μ (l3 + (2 : Int32))).bind fun x3 => (opRv 11 μ l1).bind fun _ => opCall (f_X11_moveOf l1 x1 x3 μ) fun x8 μ6 => (opScr μ6 (l3 + (1 : Int32))).bind fun x9 => (opScr μ6 (l3 + (2 : Int32))).bind fun x11 => (opRv 12 μ6 l2).bind fun _ => opCall (f_X12_moveOf l2 x9 x11 μ6) fun x16 μ14 => if x8 = x16 then (f_L_law_2079 k18 l1 l2 l3 μ14) else (opRet (0 : Int32) μ14)
set_option maxRecDepth 100000 in
def f_L_law_1918 (k18 : Nat → Nat → Int32 → dtM → Option (Int32 × dtM)) (l1 : Nat) (l2 : Nat) (l3 : Int32) (μ : dtM) : Option (Int32 × dtM) :=
  (opScr μ (l3 + (1 : Int32))).bind fun x1 => (opScr μ (l3 + (2 : Int32))).bind fun x3 => (opRv 11 μ l1).bind fun _ => opCall (f_X11_gale l1 x1 x3 μ) fun x8 μ6 => (opScr μ6 (l3 + (1 : Int32))).bind fun x9 => (opScr μ6 (l3 + (2 : Int32))).bind fun x11 => (opRv 12 μ6 l2).bind fun _ => opCall (f_X12_gale l2 x9 x11 μ6) fun x16 μ14 => if x8 = x16 then (f_L_law_2079 k18 l1 l2 l3 μ14) else (opRet (0 : Int32) μ14)
set_option maxRecDepth 100000 in
def f_L_law_1951 (k18 : Nat → Nat → Int32 → dtM → Option (Int32 × dtM)) (l1 : Nat) (l2 : Nat) (l3 : Int32) (μ : dtM) : Option (Int32 × dtM) :=
  (opScr μ (l3 + (1 : Int32))).bind fun x1 => (opRv 11 μ l1).bind fun _ => opCall (f_X11_copyRooms l1 x1 μ) fun x6 μ4 => (opScr μ4 (l3 + (1 : Int32))).bind fun x7 => (opRv 12 μ4 l2).bind fun _ => opCall (f_X12_copyRooms l2 x7 μ4) fun x12 μ10 => if x6 = x12 then (f_L_law_2079 k18 l1 l2 l3 μ10) else (opRet (0 : Int32) μ10)
set_option maxRecDepth 100000 in
def f_L_law_1974 (k18 : Nat → Nat → Int32 → dtM → Option (Int32 × dtM)) (l1 : Nat) (l2 : Nat) (l3 : Int32) (μ : dtM) : Option (Int32 × dtM) :=
  (opScr μ (l3 + (1 : Int32))).bind fun x1 => (opRv 11 μ l1).bind fun _ => opCall (f_X11_live l1 x1 μ) fun x6 μ4 => (opScr μ4 (l3 + (1 : Int32))).bind fun x7 => (opRv 12 μ4 l2).bind fun _ => opCall (f_X12_live l2 x7 μ4) fun x12 μ10 => if x6 = x12 then (f_L_law_2079 k18 l1 l2 l3 μ10) else (opRet (0 : Int32) μ10)
set_option maxRecDepth 100000 in
def f_L_law_1997 (k18 : Nat → Nat → Int32 → dtM → Option (Int32 × dtM)) (l1 : Nat) (l2 : Nat) (l3 : Int32) (μ : dtM) : Option (Int32 × dtM) :=
  (opScr μ (l3 + (1 : Int32))).bind fun x1 => (opRv 11 μ l1).bind fun _ => opCall (f_X11_lived l1 x1 μ) fun x6 μ4 => (opScr μ4 (l3 + (1 : Int32))).bind fun x7 => (opRv 12 μ4 l2).bind fun _ => opCall (f_X12_lived l2 x7 μ4) fun x12 μ10 => if x6 = x12 then (f_L_law_2079 k18 l1 l2 l3 μ10) else (opRet (0 : Int32) μ10)
set_option maxRecDepth 100000 in
def f_L_law_2020 (k18 : Nat → Nat → Int32 → dtM → Option (Int32 × dtM)) (l1 : Nat) (l2 : Nat) (l3 : Int32) (μ : dtM) : Option (Int32 × dtM) :=
  (opScr μ (l3 + (1 : Int32))).bind fun x1 => (opScr μ (l3 + (2 : Int32))).bind fun x3 => (opRv 11 μ l1).bind fun _ => opCall (f_X11_mean l1 x1 x3 μ) fun x8 μ6 => (opScr μ6 (l3 + (1 : Int32))).bind fun x9 => (opScr μ6 (l3 + (2 : Int32))).bind fun x11 => (opRv 12 μ6 l2).bind fun _ => opCall (f_X12_mean l2 x9 x11 μ6) fun x16 μ14 => if x8 = x16 then (f_L_law_2079 k18 l1 l2 l3 μ14) else (opRet (0 : Int32) μ14)
set_option maxRecDepth 100000 in
def f_L_law_2053 (k18 : Nat → Nat → Int32 → dtM → Option (Int32 × dtM)) (l1 : Nat) (l2 : Nat) (l3 : Int32) (μ : dtM) : Option (Int32 × dtM) :=
  (opRv 11 μ l1).bind fun _ => opCall (f_X11_mark l1 μ) fun x4 μ2 => (opRv 12 μ2 l2).bind fun _ => opCall (f_X12_mark l2 μ2) fun x8 μ6 => if x4 = x8 then (f_L_law_2079 k18 l1 l2 l3 μ6) else (opRet (0 : Int32) μ6)
set_option maxRecDepth 100000 in
def f_L_law_2066 (k18 : Nat → Nat → Int32 → dtM → Option (Int32 × dtM)) (l1 : Nat) (l2 : Nat) (l3 : Int32) (μ : dtM) : Option (Int32 × dtM) :=
  (opRv 11 μ l1).bind fun _ => opCall (f_X11_undo l1 μ) fun x4 μ2 => (opRv 12 μ2 l2).bind fun _ => opCall (f_X12_undo l2 μ2) fun x8 μ6 => if x4 = x8 then (f_L_law_2079 k18 l1 l2 l3 μ6) else (opRet (0 : Int32) μ6)
set_option maxRecDepth 100000 in
def f_L_law_18 : Nat → Nat → Nat → Int32 → dtM → Option (Int32 × dtM)
  | 0, _, _, _, _ => none
  | n + 1, l1, l2, l3, μ =>
    if ((Int32.ofNat (dtS μ 1000000).2) - (6 : Int32)) < l3 then (opRet (1 : Int32) μ) else ((opScr μ l3).bind fun x4 => if (x4 &&& (63 : Int32)) = 0 then (f_L_law_272 (f_L_law_18 n) l1 l2 l3 μ) else if (x4 &&& (63 : Int32)) = 1 then (f_L_law_285 (f_L_law_18 n) l1 l2 l3 μ) else if (x4 &&& (63 : Int32)) = 2 then (f_L_law_299 (f_L_law_18 n) l1 l2 l3 μ) else if (x4 &&& (63 : Int32)) = 3 then (f_L_law_313 (f_L_law_18 n) l1 l2 l3 μ) else if (x4 &&& (63 : Int32)) = 4 then (f_L_law_356 (f_L_law_18 n) l1 l2 l3 μ) else if (x4 &&& (63 : Int32)) = 5 then (f_L_law_429 (f_L_law_18 n) l1 l2 l3 μ) else if (x4 &&& (63 : Int32)) = 6 then (f_L_law_463 (f_L_law_18 n) l1 l2 l3 μ) else if (x4 &&& (63 : Int32)) = 7 then (f_L_law_526 (f_L_law_18 n) l1 l2 l3 μ) else if (x4 &&& (63 : Int32)) = 8 then (f_L_law_589 (f_L_law_18 n) l1 l2 l3 μ) else if (x4 &&& (63 : Int32)) = 9 then (f_L_law_612 (f_L_law_18 n) l1 l2 l3 μ) else if (x4 &&& (63 : Int32)) = 10 then (f_L_law_635 (f_L_law_18 n) l1 l2 l3 μ) else if (x4 &&& (63 : Int32)) = 11 then (f_L_law_658 (f_L_law_18 n) l1 l2 l3 μ) else if (x4 &&& (63 : Int32)) = 12 then (f_L_law_681 (f_L_law_18 n) l1 l2 l3 μ) else if (x4 &&& (63 : Int32)) = 13 then (f_L_law_714 (f_L_law_18 n) l1 l2 l3 μ) else if (x4 &&& (63 : Int32)) = 14 then (f_L_law_737 (f_L_law_18 n) l1 l2 l3 μ) else if (x4 &&& (63 : Int32)) = 15 then (f_L_law_770 (f_L_law_18 n) l1 l2 l3 μ) else if (x4 &&& (63 : Int32)) = 16 then (f_L_law_803 (f_L_law_18 n) l1 l2 l3 μ) else if (x4 &&& (63 : Int32)) = 17 then (f_L_law_836 (f_L_law_18 n) l1 l2 l3 μ) else if (x4 &&& (63 : Int32)) = 18 then (f_L_law_879 (f_L_law_18 n) l1 l2 l3 μ) else if (x4 &&& (63 : Int32)) = 19 then (f_L_law_912 (f_L_law_18 n) l1 l2 l3 μ) else if (x4 &&& (63 : Int32)) = 20 then (f_L_law_945 (f_L_law_18 n) l1 l2 l3 μ) else if (x4 &&& (63 : Int32)) = 21 then (f_L_law_968 (f_L_law_18 n) l1 l2 l3 μ) else if (x4 &&& (63 : Int32)) = 22 then (f_L_law_1027 (f_L_law_18 n) l1 l2 l3 μ) else if (x4 &&& (63 : Int32)) = 23 then (f_L_law_1060 (f_L_law_18 n) l1 l2 l3 μ) else if (x4 &&& (63 : Int32)) = 24 then (f_L_law_1083 (f_L_law_18 n) l1 l2 l3 μ) else if (x4 &&& (63 : Int32)) = 25 then (f_L_law_1116 (f_L_law_18 n) l1 l2 l3 μ) else if (x4 &&& (63 : Int32)) = 26 then (f_L_law_1149 (f_L_law_18 n) l1 l2 l3 μ) else if (x4 &&& (63 : Int32)) = 27 then (f_L_law_1172 (f_L_law_18 n) l1 l2 l3 μ) else if (x4 &&& (63 : Int32)) = 28 then (f_L_law_1205 (f_L_law_18 n) l1 l2 l3 μ) else if (x4 &&& (63 : Int32)) = 29 then (f_L_law_1238 (f_L_law_18 n) l1 l2 l3 μ) else if (x4 &&& (63 : Int32)) = 30 then (f_L_law_1271 (f_L_law_18 n) l1 l2 l3 μ) else if (x4 &&& (63 : Int32)) = 31 then (f_L_law_1314 (f_L_law_18 n) l1 l2 l3 μ) else if (x4 &&& (63 : Int32)) = 32 then (f_L_law_1367 (f_L_law_18 n) l1 l2 l3 μ) else if (x4 &&& (63 : Int32)) = 33 then (f_L_law_1390 (f_L_law_18 n) l1 l2 l3 μ) else if (x4 &&& (63 : Int32)) = 34 then (f_L_law_1413 (f_L_law_18 n) l1 l2 l3 μ) else if (x4 &&& (63 : Int32)) = 35 then (f_L_law_1446 (f_L_law_18 n) l1 l2 l3 μ) else if (x4 &&& (63 : Int32)) = 36 then (f_L_law_1489 (f_L_law_18 n) l1 l2 l3 μ) else if (x4 &&& (63 : Int32)) = 37 then (f_L_law_1532 (f_L_law_18 n) l1 l2 l3 μ) else if (x4 &&& (63 : Int32)) = 38 then (f_L_law_1555 (f_L_law_18 n) l1 l2 l3 μ) else if (x4 &&& (63 : Int32)) = 39 then (f_L_law_1588 (f_L_law_18 n) l1 l2 l3 μ) else if (x4 &&& (63 : Int32)) = 40 then (f_L_law_1621 (f_L_law_18 n) l1 l2 l3 μ) else if (x4 &&& (63 : Int32)) = 41 then (f_L_law_1654 (f_L_law_18 n) l1 l2 l3 μ) else if (x4 &&& (63 : Int32)) = 42 then (f_L_law_1697 (f_L_law_18 n) l1 l2 l3 μ) else if (x4 &&& (63 : Int32)) = 43 then (f_L_law_1720 (f_L_law_18 n) l1 l2 l3 μ) else if (x4 &&& (63 : Int32)) = 44 then (f_L_law_1753 (f_L_law_18 n) l1 l2 l3 μ) else if (x4 &&& (63 : Int32)) = 45 then (f_L_law_1786 (f_L_law_18 n) l1 l2 l3 μ) else if (x4 &&& (63 : Int32)) = 46 then (f_L_law_1819 (f_L_law_18 n) l1 l2 l3 μ) else if (x4 &&& (63 : Int32)) = 47 then (f_L_law_1852 (f_L_law_18 n) l1 l2 l3 μ) else if (x4 &&& (63 : Int32)) = 48 then (f_L_law_1885 (f_L_law_18 n) l1 l2 l3 μ) else if (x4 &&& (63 : Int32)) = 49 then (f_L_law_1918 (f_L_law_18 n) l1 l2 l3 μ) else if (x4 &&& (63 : Int32)) = 50 then (f_L_law_1951 (f_L_law_18 n) l1 l2 l3 μ) else if (x4 &&& (63 : Int32)) = 51 then (f_L_law_1974 (f_L_law_18 n) l1 l2 l3 μ) else if (x4 &&& (63 : Int32)) = 52 then (f_L_law_1997 (f_L_law_18 n) l1 l2 l3 μ) else if (x4 &&& (63 : Int32)) = 53 then (f_L_law_2020 (f_L_law_18 n) l1 l2 l3 μ) else if (x4 &&& (63 : Int32)) = 54 then (f_L_law_2053 (f_L_law_18 n) l1 l2 l3 μ) else if (x4 &&& (63 : Int32)) = 55 then (f_L_law_2066 (f_L_law_18 n) l1 l2 l3 μ) else f_L_law_2079 (f_L_law_18 n) l1 l2 l3 μ)
set_option maxRecDepth 100000 in
def f_L_law  (μ : dtM) : Option (Int32 × dtM) :=
  opCall (opNew 11 μ) fun q1 μ2 => (opLt q1).bind fun _ => (f_X11_init q1 μ2).bind fun μ5 => opCall (opNew 12 μ5) fun q7 μ8 => (opLt q7).bind fun _ => (f_X12_init q7 μ8).bind fun μ11 => f_L_law_18 dtFuel q1 q7 (0 : Int32) μ11
set_option maxRecDepth 100000 in
theorem c_L_law_2079 {r : Int32} {F : dtM} (k18 : Nat → Nat → Int32 → dtM → Option (Int32 × dtM)) (hk18 : ∀ (l1 : Nat) (l2 : Nat) (l3 : Int32) (μ : dtM), k18 l1 l2 l3 μ = some (r, F) → dtW yL_law cL_law 4 (some .boolean) 49 (some (.int r)) F 18 [some (.ref 1000000), some (.ref l1), some (.ref l2), some (.int l3)] [] μ) (l1 : Nat) (l2 : Nat) (l3 : Int32) (μ : dtM) (h : f_L_law_2079 k18 l1 l2 l3 μ = some (r, F)) : dtW yL_law cL_law 4 (some .boolean) 49 (some (.int r)) F 2079 [some (.ref 1000000), some (.ref l1), some (.ref l2), some (.int l3)] [] μ := by
  rw [f_L_law_2079] at h
  refine dr_iinc l3 (l3 + 6) [some (.ref 1000000), some (.ref l1), some (.ref l2), some (.int (l3 + 6))] dL_law_2079 rfl rfl rfl rfl rfl ?_
  refine dr_goto 18 dL_law_2082 (by decide) ?_
  exact hk18 l1 l2 (l3 + 6) μ h
set_option maxRecDepth 100000 in
theorem c_L_law_272 {r : Int32} {F : dtM} (k18 : Nat → Nat → Int32 → dtM → Option (Int32 × dtM)) (hk18 : ∀ (l1 : Nat) (l2 : Nat) (l3 : Int32) (μ : dtM), k18 l1 l2 l3 μ = some (r, F) → dtW yL_law cL_law 4 (some .boolean) 49 (some (.int r)) F 18 [some (.ref 1000000), some (.ref l1), some (.ref l2), some (.int l3)] [] μ) (l1 : Nat) (l2 : Nat) (l3 : Int32) (μ : dtM) (h : f_L_law_272 k18 l1 l2 l3 μ = some (r, F)) : dtW yL_law cL_law 4 (some .boolean) 49 (some (.int r)) F 272 [some (.ref 1000000), some (.ref l1), some (.ref l2), some (.int l3)] [] μ := by
  rw [f_L_law_272] at h
  refine dr_aload_n l1 dL_law_272 rfl ?_
  obtain ⟨_, hb1, h⟩ := dtBind h
  obtain ⟨x4, μ2, e3, h⟩ := dtCall h
  refine dr_callV_i (S0 := []) [] x4 μ2 dL_law_273 (c_X11_status l1 μ e3) mf_X11_status wt_459 wt_460 wt_458 rfl (dtRv hb1) (by decide) rfl (Nat.le_of_ble_eq_true rfl) (Nat.le_of_ble_eq_true rfl) rfl ?_
  refine dr_aload_n l2 dL_law_276 rfl ?_
  obtain ⟨_, hb5, h⟩ := dtBind h
  obtain ⟨x8, μ6, e7, h⟩ := dtCall h
  refine dr_callV_i (S0 := [.int x4]) [] x8 μ6 dL_law_277 (c_X12_status l2 μ2 e7) mf_X12_status wt_1472 wt_1473 wt_1471 rfl (dtRv hb5) (by decide) rfl (Nat.le_of_ble_eq_true rfl) (Nat.le_of_ble_eq_true rfl) rfl ?_
  obtain ⟨ht10, hf11⟩ := dtIte h
  refine dr_icmp_eq 2079 dL_law_280 (by decide) (fun hc9 => ?_) (fun hc9 => ?_)
  · have h := ht10 hc9
    exact c_L_law_2079 k18 hk18 l1 l2 l3 μ6 h
  · have h := hf11 hc9
    refine dr_iconst (0 : Int32) dL_law_283 (by decide) ?_
    obtain ⟨hz, rfl, rfl⟩ := dtRet h
    exact dr_ireturn dL_law_284 (dtNz hz)
set_option maxRecDepth 100000 in
theorem c_L_law_285 {r : Int32} {F : dtM} (k18 : Nat → Nat → Int32 → dtM → Option (Int32 × dtM)) (hk18 : ∀ (l1 : Nat) (l2 : Nat) (l3 : Int32) (μ : dtM), k18 l1 l2 l3 μ = some (r, F) → dtW yL_law cL_law 4 (some .boolean) 49 (some (.int r)) F 18 [some (.ref 1000000), some (.ref l1), some (.ref l2), some (.int l3)] [] μ) (l1 : Nat) (l2 : Nat) (l3 : Int32) (μ : dtM) (h : f_L_law_285 k18 l1 l2 l3 μ = some (r, F)) : dtW yL_law cL_law 4 (some .boolean) 49 (some (.int r)) F 285 [some (.ref 1000000), some (.ref l1), some (.ref l2), some (.int l3)] [] μ := by
  rw [f_L_law_285] at h
  refine dr_aload_n l1 dL_law_285 rfl ?_
  obtain ⟨_, hb1, h⟩ := dtBind h
  obtain ⟨x4, μ2, e3, h⟩ := dtCall h
  refine dr_callV_l (S0 := []) [] x4 μ2 dL_law_286 (c_X11_top l1 μ e3) mf_X11_top wt_463 wt_464 wt_462 rfl (dtRv hb1) (by decide) rfl (Nat.le_of_ble_eq_true rfl) (Nat.le_of_ble_eq_true rfl) rfl ?_
  refine dr_aload_n l2 dL_law_289 rfl ?_
  obtain ⟨_, hb5, h⟩ := dtBind h
  obtain ⟨x8, μ6, e7, h⟩ := dtCall h
  refine dr_callV_l (S0 := [.long x4]) [] x8 μ6 dL_law_290 (c_X12_top l2 μ2 e7) mf_X12_top wt_1476 wt_1477 wt_1475 rfl (dtRv hb5) (by decide) rfl (Nat.le_of_ble_eq_true rfl) (Nat.le_of_ble_eq_true rfl) rfl ?_
  refine dr_lcmp dL_law_293 ?_
  obtain ⟨ht10, hf11⟩ := dtIte h
  refine dr_if_eq 2079 dL_law_294 (by decide) (fun hc9 => ?_) (fun hc9 => ?_)
  · have h := ht10 hc9
    exact c_L_law_2079 k18 hk18 l1 l2 l3 μ6 h
  · have h := hf11 hc9
    refine dr_iconst (0 : Int32) dL_law_297 (by decide) ?_
    obtain ⟨hz, rfl, rfl⟩ := dtRet h
    exact dr_ireturn dL_law_298 (dtNz hz)
set_option maxRecDepth 100000 in
theorem c_L_law_299 {r : Int32} {F : dtM} (k18 : Nat → Nat → Int32 → dtM → Option (Int32 × dtM)) (hk18 : ∀ (l1 : Nat) (l2 : Nat) (l3 : Int32) (μ : dtM), k18 l1 l2 l3 μ = some (r, F) → dtW yL_law cL_law 4 (some .boolean) 49 (some (.int r)) F 18 [some (.ref 1000000), some (.ref l1), some (.ref l2), some (.int l3)] [] μ) (l1 : Nat) (l2 : Nat) (l3 : Int32) (μ : dtM) (h : f_L_law_299 k18 l1 l2 l3 μ = some (r, F)) : dtW yL_law cL_law 4 (some .boolean) 49 (some (.int r)) F 299 [some (.ref 1000000), some (.ref l1), some (.ref l2), some (.int l3)] [] μ := by
  rw [f_L_law_299] at h
  refine dr_aload_n l1 dL_law_299 rfl ?_
  obtain ⟨_, hb1, h⟩ := dtBind h
  obtain ⟨x4, μ2, e3, h⟩ := dtCall h
  refine dr_callV_l (S0 := []) [] x4 μ2 dL_law_300 (c_X11_bottom l1 μ e3) mf_X11_bottom wt_467 wt_468 wt_466 rfl (dtRv hb1) (by decide) rfl (Nat.le_of_ble_eq_true rfl) (Nat.le_of_ble_eq_true rfl) rfl ?_
  refine dr_aload_n l2 dL_law_303 rfl ?_
  obtain ⟨_, hb5, h⟩ := dtBind h
  obtain ⟨x8, μ6, e7, h⟩ := dtCall h
  refine dr_callV_l (S0 := [.long x4]) [] x8 μ6 dL_law_304 (c_X12_bottom l2 μ2 e7) mf_X12_bottom wt_1480 wt_1481 wt_1479 rfl (dtRv hb5) (by decide) rfl (Nat.le_of_ble_eq_true rfl) (Nat.le_of_ble_eq_true rfl) rfl ?_
  refine dr_lcmp dL_law_307 ?_
  obtain ⟨ht10, hf11⟩ := dtIte h
  refine dr_if_eq 2079 dL_law_308 (by decide) (fun hc9 => ?_) (fun hc9 => ?_)
  · have h := ht10 hc9
    exact c_L_law_2079 k18 hk18 l1 l2 l3 μ6 h
  · have h := hf11 hc9
    refine dr_iconst (0 : Int32) dL_law_311 (by decide) ?_
    obtain ⟨hz, rfl, rfl⟩ := dtRet h
    exact dr_ireturn dL_law_312 (dtNz hz)
set_option maxRecDepth 100000 in
theorem c_L_law_313 {r : Int32} {F : dtM} (k18 : Nat → Nat → Int32 → dtM → Option (Int32 × dtM)) (hk18 : ∀ (l1 : Nat) (l2 : Nat) (l3 : Int32) (μ : dtM), k18 l1 l2 l3 μ = some (r, F) → dtW yL_law cL_law 4 (some .boolean) 49 (some (.int r)) F 18 [some (.ref 1000000), some (.ref l1), some (.ref l2), some (.int l3)] [] μ) (l1 : Nat) (l2 : Nat) (l3 : Int32) (μ : dtM) (h : f_L_law_313 k18 l1 l2 l3 μ = some (r, F)) : dtW yL_law cL_law 4 (some .boolean) 49 (some (.int r)) F 313 [some (.ref 1000000), some (.ref l1), some (.ref l2), some (.int l3)] [] μ := by
  rw [f_L_law_313] at h
  refine dr_aload_n l1 dL_law_313 rfl ?_
  refine dr_aload_n 1000000 dL_law_314 rfl ?_
  refine dr_iload_n l3 dL_law_315 rfl ?_
  refine dr_iconst (1 : Int32) dL_law_316 (by decide) ?_
  refine dr_iadd dL_law_317 ?_
  obtain ⟨x1, e2, h⟩ := dtBind h
  refine dr_sload x1 dL_law_318 e2 ?_
  refine dr_aload_n 1000000 dL_law_319 rfl ?_
  refine dr_iload_n l3 dL_law_320 rfl ?_
  refine dr_iconst (2 : Int32) dL_law_321 (by decide) ?_
  refine dr_iadd dL_law_322 ?_
  obtain ⟨x3, e4, h⟩ := dtBind h
  refine dr_sload x3 dL_law_323 e4 ?_
  refine dr_aload_n 1000000 dL_law_324 rfl ?_
  refine dr_iload_n l3 dL_law_325 rfl ?_
  refine dr_iconst (3 : Int32) dL_law_326 (by decide) ?_
  refine dr_iadd dL_law_327 ?_
  obtain ⟨x5, e6, h⟩ := dtBind h
  refine dr_sload x5 dL_law_328 e6 ?_
  obtain ⟨_, hb7, h⟩ := dtBind h
  obtain ⟨x10, μ8, e9, h⟩ := dtCall h
  refine dr_callV_i (S0 := []) [.int x1, .int x3, .int x5] x10 μ8 dL_law_329 (c_X11_tray l1 x1 x3 x5 μ e9) mf_X11_tray wt_471 wt_472 wt_470 rfl (dtRv hb7) (by decide) rfl (Nat.le_of_ble_eq_true rfl) (Nat.le_of_ble_eq_true rfl) rfl ?_
  refine dr_aload_n l2 dL_law_332 rfl ?_
  refine dr_aload_n 1000000 dL_law_333 rfl ?_
  refine dr_iload_n l3 dL_law_334 rfl ?_
  refine dr_iconst (1 : Int32) dL_law_335 (by decide) ?_
  refine dr_iadd dL_law_336 ?_
  obtain ⟨x11, e12, h⟩ := dtBind h
  refine dr_sload x11 dL_law_337 e12 ?_
  refine dr_aload_n 1000000 dL_law_338 rfl ?_
  refine dr_iload_n l3 dL_law_339 rfl ?_
  refine dr_iconst (2 : Int32) dL_law_340 (by decide) ?_
  refine dr_iadd dL_law_341 ?_
  obtain ⟨x13, e14, h⟩ := dtBind h
  refine dr_sload x13 dL_law_342 e14 ?_
  refine dr_aload_n 1000000 dL_law_343 rfl ?_
  refine dr_iload_n l3 dL_law_344 rfl ?_
  refine dr_iconst (3 : Int32) dL_law_345 (by decide) ?_
  refine dr_iadd dL_law_346 ?_
  obtain ⟨x15, e16, h⟩ := dtBind h
  refine dr_sload x15 dL_law_347 e16 ?_
  obtain ⟨_, hb17, h⟩ := dtBind h
  obtain ⟨x20, μ18, e19, h⟩ := dtCall h
  refine dr_callV_i (S0 := [.int x10]) [.int x11, .int x13, .int x15] x20 μ18 dL_law_348 (c_X12_tray l2 x11 x13 x15 μ8 e19) mf_X12_tray wt_1484 wt_1485 wt_1483 rfl (dtRv hb17) (by decide) rfl (Nat.le_of_ble_eq_true rfl) (Nat.le_of_ble_eq_true rfl) rfl ?_
  obtain ⟨ht22, hf23⟩ := dtIte h
  refine dr_icmp_eq 2079 dL_law_351 (by decide) (fun hc21 => ?_) (fun hc21 => ?_)
  · have h := ht22 hc21
    exact c_L_law_2079 k18 hk18 l1 l2 l3 μ18 h
  · have h := hf23 hc21
    refine dr_iconst (0 : Int32) dL_law_354 (by decide) ?_
    obtain ⟨hz, rfl, rfl⟩ := dtRet h
    exact dr_ireturn dL_law_355 (dtNz hz)
set_option maxRecDepth 100000 in
theorem c_L_law_356 {r : Int32} {F : dtM} (k18 : Nat → Nat → Int32 → dtM → Option (Int32 × dtM)) (hk18 : ∀ (l1 : Nat) (l2 : Nat) (l3 : Int32) (μ : dtM), k18 l1 l2 l3 μ = some (r, F) → dtW yL_law cL_law 4 (some .boolean) 49 (some (.int r)) F 18 [some (.ref 1000000), some (.ref l1), some (.ref l2), some (.int l3)] [] μ) (l1 : Nat) (l2 : Nat) (l3 : Int32) (μ : dtM) (h : f_L_law_356 k18 l1 l2 l3 μ = some (r, F)) : dtW yL_law cL_law 4 (some .boolean) 49 (some (.int r)) F 356 [some (.ref 1000000), some (.ref l1), some (.ref l2), some (.int l3)] [] μ := by
  rw [f_L_law_356] at h
  refine dr_aload_n l1 dL_law_356 rfl ?_
  refine dr_aload_n 1000000 dL_law_357 rfl ?_
  refine dr_iload_n l3 dL_law_358 rfl ?_
  refine dr_iconst (1 : Int32) dL_law_359 (by decide) ?_
  refine dr_iadd dL_law_360 ?_
  obtain ⟨x1, e2, h⟩ := dtBind h
  refine dr_sload x1 dL_law_361 e2 ?_
  refine dr_aload_n 1000000 dL_law_362 rfl ?_
  refine dr_iload_n l3 dL_law_363 rfl ?_
  refine dr_iconst (2 : Int32) dL_law_364 (by decide) ?_
  refine dr_iadd dL_law_365 ?_
  obtain ⟨x3, e4, h⟩ := dtBind h
  refine dr_sload x3 dL_law_366 e4 ?_
  refine dr_aload_n 1000000 dL_law_367 rfl ?_
  refine dr_iload_n l3 dL_law_368 rfl ?_
  refine dr_iconst (3 : Int32) dL_law_369 (by decide) ?_
  refine dr_iadd dL_law_370 ?_
  obtain ⟨x5, e6, h⟩ := dtBind h
  refine dr_sload x5 dL_law_371 e6 ?_
  refine dr_i2l dL_law_372 ?_
  refine dr_bipush (32 : Int32) dL_law_373 (by decide) ?_
  refine dr_lshl dL_law_375 ?_
  refine dr_aload_n 1000000 dL_law_376 rfl ?_
  refine dr_iload_n l3 dL_law_377 rfl ?_
  refine dr_iconst (4 : Int32) dL_law_378 (by decide) ?_
  refine dr_iadd dL_law_379 ?_
  obtain ⟨x7, e8, h⟩ := dtBind h
  refine dr_sload x7 dL_law_380 e8 ?_
  refine dr_i2l dL_law_381 ?_
  refine dr_ldc2 (4294967295 : Int64) dL_law_382 wt_2084 ?_
  refine dr_land dL_law_385 ?_
  refine dr_lor dL_law_386 ?_
  obtain ⟨_, hb9, h⟩ := dtBind h
  obtain ⟨x12, μ10, e11, h⟩ := dtCall h
  refine dr_callV_i (S0 := []) [.int x1, .int x3, .long (((x5.toInt64) <<< ((32 : Int32).toInt64 &&& 63)) ||| ((x7.toInt64) &&& (4294967295 : Int64)))] x12 μ10 dL_law_387 (c_X11_write l1 x1 x3 (((x5.toInt64) <<< ((32 : Int32).toInt64 &&& 63)) ||| ((x7.toInt64) &&& (4294967295 : Int64))) μ e11) mf_X11_write wt_493 wt_494 wt_492 rfl (dtRv hb9) (by decide) rfl (Nat.le_of_ble_eq_true rfl) (Nat.le_of_ble_eq_true rfl) rfl ?_
  refine dr_aload_n l2 dL_law_390 rfl ?_
  refine dr_aload_n 1000000 dL_law_391 rfl ?_
  refine dr_iload_n l3 dL_law_392 rfl ?_
  refine dr_iconst (1 : Int32) dL_law_393 (by decide) ?_
  refine dr_iadd dL_law_394 ?_
  obtain ⟨x13, e14, h⟩ := dtBind h
  refine dr_sload x13 dL_law_395 e14 ?_
  refine dr_aload_n 1000000 dL_law_396 rfl ?_
  refine dr_iload_n l3 dL_law_397 rfl ?_
  refine dr_iconst (2 : Int32) dL_law_398 (by decide) ?_
  refine dr_iadd dL_law_399 ?_
  obtain ⟨x15, e16, h⟩ := dtBind h
  refine dr_sload x15 dL_law_400 e16 ?_
  refine dr_aload_n 1000000 dL_law_401 rfl ?_
  refine dr_iload_n l3 dL_law_402 rfl ?_
  refine dr_iconst (3 : Int32) dL_law_403 (by decide) ?_
  refine dr_iadd dL_law_404 ?_
  obtain ⟨x17, e18, h⟩ := dtBind h
  refine dr_sload x17 dL_law_405 e18 ?_
  refine dr_i2l dL_law_406 ?_
  refine dr_bipush (32 : Int32) dL_law_407 (by decide) ?_
  refine dr_lshl dL_law_409 ?_
  refine dr_aload_n 1000000 dL_law_410 rfl ?_
  refine dr_iload_n l3 dL_law_411 rfl ?_
  refine dr_iconst (4 : Int32) dL_law_412 (by decide) ?_
  refine dr_iadd dL_law_413 ?_
  obtain ⟨x19, e20, h⟩ := dtBind h
  refine dr_sload x19 dL_law_414 e20 ?_
  refine dr_i2l dL_law_415 ?_
  refine dr_ldc2 (4294967295 : Int64) dL_law_416 wt_2084 ?_
  refine dr_land dL_law_419 ?_
  refine dr_lor dL_law_420 ?_
  obtain ⟨_, hb21, h⟩ := dtBind h
  obtain ⟨x24, μ22, e23, h⟩ := dtCall h
  refine dr_callV_i (S0 := [.int x12]) [.int x13, .int x15, .long (((x17.toInt64) <<< ((32 : Int32).toInt64 &&& 63)) ||| ((x19.toInt64) &&& (4294967295 : Int64)))] x24 μ22 dL_law_421 (c_X12_write l2 x13 x15 (((x17.toInt64) <<< ((32 : Int32).toInt64 &&& 63)) ||| ((x19.toInt64) &&& (4294967295 : Int64))) μ10 e23) mf_X12_write wt_1495 wt_1496 wt_1494 rfl (dtRv hb21) (by decide) rfl (Nat.le_of_ble_eq_true rfl) (Nat.le_of_ble_eq_true rfl) rfl ?_
  obtain ⟨ht26, hf27⟩ := dtIte h
  refine dr_icmp_eq 2079 dL_law_424 (by decide) (fun hc25 => ?_) (fun hc25 => ?_)
  · have h := ht26 hc25
    exact c_L_law_2079 k18 hk18 l1 l2 l3 μ22 h
  · have h := hf27 hc25
    refine dr_iconst (0 : Int32) dL_law_427 (by decide) ?_
    obtain ⟨hz, rfl, rfl⟩ := dtRet h
    exact dr_ireturn dL_law_428 (dtNz hz)
set_option maxRecDepth 100000 in
theorem c_L_law_429 {r : Int32} {F : dtM} (k18 : Nat → Nat → Int32 → dtM → Option (Int32 × dtM)) (hk18 : ∀ (l1 : Nat) (l2 : Nat) (l3 : Int32) (μ : dtM), k18 l1 l2 l3 μ = some (r, F) → dtW yL_law cL_law 4 (some .boolean) 49 (some (.int r)) F 18 [some (.ref 1000000), some (.ref l1), some (.ref l2), some (.int l3)] [] μ) (l1 : Nat) (l2 : Nat) (l3 : Int32) (μ : dtM) (h : f_L_law_429 k18 l1 l2 l3 μ = some (r, F)) : dtW yL_law cL_law 4 (some .boolean) 49 (some (.int r)) F 429 [some (.ref 1000000), some (.ref l1), some (.ref l2), some (.int l3)] [] μ := by
  rw [f_L_law_429] at h
  refine dr_aload_n l1 dL_law_429 rfl ?_
  refine dr_aload_n 1000000 dL_law_430 rfl ?_
  refine dr_iload_n l3 dL_law_431 rfl ?_
  refine dr_iconst (1 : Int32) dL_law_432 (by decide) ?_
  refine dr_iadd dL_law_433 ?_
  obtain ⟨x1, e2, h⟩ := dtBind h
  refine dr_sload x1 dL_law_434 e2 ?_
  refine dr_aload_n 1000000 dL_law_435 rfl ?_
  refine dr_iload_n l3 dL_law_436 rfl ?_
  refine dr_iconst (2 : Int32) dL_law_437 (by decide) ?_
  refine dr_iadd dL_law_438 ?_
  obtain ⟨x3, e4, h⟩ := dtBind h
  refine dr_sload x3 dL_law_439 e4 ?_
  obtain ⟨_, hb5, h⟩ := dtBind h
  obtain ⟨x8, μ6, e7, h⟩ := dtCall h
  refine dr_callV_l (S0 := []) [.int x1, .int x3] x8 μ6 dL_law_440 (c_X11_read l1 x1 x3 μ e7) mf_X11_read wt_505 wt_506 wt_504 rfl (dtRv hb5) (by decide) rfl (Nat.le_of_ble_eq_true rfl) (Nat.le_of_ble_eq_true rfl) rfl ?_
  refine dr_aload_n l2 dL_law_443 rfl ?_
  refine dr_aload_n 1000000 dL_law_444 rfl ?_
  refine dr_iload_n l3 dL_law_445 rfl ?_
  refine dr_iconst (1 : Int32) dL_law_446 (by decide) ?_
  refine dr_iadd dL_law_447 ?_
  obtain ⟨x9, e10, h⟩ := dtBind h
  refine dr_sload x9 dL_law_448 e10 ?_
  refine dr_aload_n 1000000 dL_law_449 rfl ?_
  refine dr_iload_n l3 dL_law_450 rfl ?_
  refine dr_iconst (2 : Int32) dL_law_451 (by decide) ?_
  refine dr_iadd dL_law_452 ?_
  obtain ⟨x11, e12, h⟩ := dtBind h
  refine dr_sload x11 dL_law_453 e12 ?_
  obtain ⟨_, hb13, h⟩ := dtBind h
  obtain ⟨x16, μ14, e15, h⟩ := dtCall h
  refine dr_callV_l (S0 := [.long x8]) [.int x9, .int x11] x16 μ14 dL_law_454 (c_X12_read l2 x9 x11 μ6 e15) mf_X12_read wt_1506 wt_1507 wt_1505 rfl (dtRv hb13) (by decide) rfl (Nat.le_of_ble_eq_true rfl) (Nat.le_of_ble_eq_true rfl) rfl ?_
  refine dr_lcmp dL_law_457 ?_
  obtain ⟨ht18, hf19⟩ := dtIte h
  refine dr_if_eq 2079 dL_law_458 (by decide) (fun hc17 => ?_) (fun hc17 => ?_)
  · have h := ht18 hc17
    exact c_L_law_2079 k18 hk18 l1 l2 l3 μ14 h
  · have h := hf19 hc17
    refine dr_iconst (0 : Int32) dL_law_461 (by decide) ?_
    obtain ⟨hz, rfl, rfl⟩ := dtRet h
    exact dr_ireturn dL_law_462 (dtNz hz)
set_option maxRecDepth 100000 in
theorem c_L_law_463 {r : Int32} {F : dtM} (k18 : Nat → Nat → Int32 → dtM → Option (Int32 × dtM)) (hk18 : ∀ (l1 : Nat) (l2 : Nat) (l3 : Int32) (μ : dtM), k18 l1 l2 l3 μ = some (r, F) → dtW yL_law cL_law 4 (some .boolean) 49 (some (.int r)) F 18 [some (.ref 1000000), some (.ref l1), some (.ref l2), some (.int l3)] [] μ) (l1 : Nat) (l2 : Nat) (l3 : Int32) (μ : dtM) (h : f_L_law_463 k18 l1 l2 l3 μ = some (r, F)) : dtW yL_law cL_law 4 (some .boolean) 49 (some (.int r)) F 463 [some (.ref 1000000), some (.ref l1), some (.ref l2), some (.int l3)] [] μ := by
  rw [f_L_law_463] at h
  refine dr_aload_n l1 dL_law_463 rfl ?_
  refine dr_aload_n 1000000 dL_law_464 rfl ?_
  refine dr_iload_n l3 dL_law_465 rfl ?_
  refine dr_iconst (1 : Int32) dL_law_466 (by decide) ?_
  refine dr_iadd dL_law_467 ?_
  obtain ⟨x1, e2, h⟩ := dtBind h
  refine dr_sload x1 dL_law_468 e2 ?_
  refine dr_aload_n 1000000 dL_law_469 rfl ?_
  refine dr_iload_n l3 dL_law_470 rfl ?_
  refine dr_iconst (2 : Int32) dL_law_471 (by decide) ?_
  refine dr_iadd dL_law_472 ?_
  obtain ⟨x3, e4, h⟩ := dtBind h
  refine dr_sload x3 dL_law_473 e4 ?_
  refine dr_aload_n 1000000 dL_law_474 rfl ?_
  refine dr_iload_n l3 dL_law_475 rfl ?_
  refine dr_iconst (3 : Int32) dL_law_476 (by decide) ?_
  refine dr_iadd dL_law_477 ?_
  obtain ⟨x5, e6, h⟩ := dtBind h
  refine dr_sload x5 dL_law_478 e6 ?_
  refine dr_aload_n 1000000 dL_law_479 rfl ?_
  refine dr_iload_n l3 dL_law_480 rfl ?_
  refine dr_iconst (4 : Int32) dL_law_481 (by decide) ?_
  refine dr_iadd dL_law_482 ?_
  obtain ⟨x7, e8, h⟩ := dtBind h
  refine dr_sload x7 dL_law_483 e8 ?_
  refine dr_aload_n 1000000 dL_law_484 rfl ?_
  refine dr_iload_n l3 dL_law_485 rfl ?_
  refine dr_iconst (5 : Int32) dL_law_486 (by decide) ?_
  refine dr_iadd dL_law_487 ?_
  obtain ⟨x9, e10, h⟩ := dtBind h
  refine dr_sload x9 dL_law_488 e10 ?_
  obtain ⟨_, hb11, h⟩ := dtBind h
  obtain ⟨x14, μ12, e13, h⟩ := dtCall h
  refine dr_callV_i (S0 := []) [.int x1, .int x3, .int x5, .int x7, .int x9] x14 μ12 dL_law_489 (c_X11_pour l1 x1 x3 x5 x7 x9 μ e13) mf_X11_pour wt_513 wt_514 wt_512 rfl (dtRv hb11) (by decide) rfl (Nat.le_of_ble_eq_true rfl) (Nat.le_of_ble_eq_true rfl) rfl ?_
  refine dr_aload_n l2 dL_law_492 rfl ?_
  refine dr_aload_n 1000000 dL_law_493 rfl ?_
  refine dr_iload_n l3 dL_law_494 rfl ?_
  refine dr_iconst (1 : Int32) dL_law_495 (by decide) ?_
  refine dr_iadd dL_law_496 ?_
  obtain ⟨x15, e16, h⟩ := dtBind h
  refine dr_sload x15 dL_law_497 e16 ?_
  refine dr_aload_n 1000000 dL_law_498 rfl ?_
  refine dr_iload_n l3 dL_law_499 rfl ?_
  refine dr_iconst (2 : Int32) dL_law_500 (by decide) ?_
  refine dr_iadd dL_law_501 ?_
  obtain ⟨x17, e18, h⟩ := dtBind h
  refine dr_sload x17 dL_law_502 e18 ?_
  refine dr_aload_n 1000000 dL_law_503 rfl ?_
  refine dr_iload_n l3 dL_law_504 rfl ?_
  refine dr_iconst (3 : Int32) dL_law_505 (by decide) ?_
  refine dr_iadd dL_law_506 ?_
  obtain ⟨x19, e20, h⟩ := dtBind h
  refine dr_sload x19 dL_law_507 e20 ?_
  refine dr_aload_n 1000000 dL_law_508 rfl ?_
  refine dr_iload_n l3 dL_law_509 rfl ?_
  refine dr_iconst (4 : Int32) dL_law_510 (by decide) ?_
  refine dr_iadd dL_law_511 ?_
  obtain ⟨x21, e22, h⟩ := dtBind h
  refine dr_sload x21 dL_law_512 e22 ?_
  refine dr_aload_n 1000000 dL_law_513 rfl ?_
  refine dr_iload_n l3 dL_law_514 rfl ?_
  refine dr_iconst (5 : Int32) dL_law_515 (by decide) ?_
  refine dr_iadd dL_law_516 ?_
  obtain ⟨x23, e24, h⟩ := dtBind h
  refine dr_sload x23 dL_law_517 e24 ?_
  obtain ⟨_, hb25, h⟩ := dtBind h
  obtain ⟨x28, μ26, e27, h⟩ := dtCall h
  refine dr_callV_i (S0 := [.int x14]) [.int x15, .int x17, .int x19, .int x21, .int x23] x28 μ26 dL_law_518 (c_X12_pour l2 x15 x17 x19 x21 x23 μ12 e27) mf_X12_pour wt_1511 wt_1512 wt_1510 rfl (dtRv hb25) (by decide) rfl (Nat.le_of_ble_eq_true rfl) (Nat.le_of_ble_eq_true rfl) rfl ?_
  obtain ⟨ht30, hf31⟩ := dtIte h
  refine dr_icmp_eq 2079 dL_law_521 (by decide) (fun hc29 => ?_) (fun hc29 => ?_)
  · have h := ht30 hc29
    exact c_L_law_2079 k18 hk18 l1 l2 l3 μ26 h
  · have h := hf31 hc29
    refine dr_iconst (0 : Int32) dL_law_524 (by decide) ?_
    obtain ⟨hz, rfl, rfl⟩ := dtRet h
    exact dr_ireturn dL_law_525 (dtNz hz)
set_option maxRecDepth 100000 in
theorem c_L_law_526 {r : Int32} {F : dtM} (k18 : Nat → Nat → Int32 → dtM → Option (Int32 × dtM)) (hk18 : ∀ (l1 : Nat) (l2 : Nat) (l3 : Int32) (μ : dtM), k18 l1 l2 l3 μ = some (r, F) → dtW yL_law cL_law 4 (some .boolean) 49 (some (.int r)) F 18 [some (.ref 1000000), some (.ref l1), some (.ref l2), some (.int l3)] [] μ) (l1 : Nat) (l2 : Nat) (l3 : Int32) (μ : dtM) (h : f_L_law_526 k18 l1 l2 l3 μ = some (r, F)) : dtW yL_law cL_law 4 (some .boolean) 49 (some (.int r)) F 526 [some (.ref 1000000), some (.ref l1), some (.ref l2), some (.int l3)] [] μ := by
  rw [f_L_law_526] at h
  refine dr_aload_n l1 dL_law_526 rfl ?_
  refine dr_aload_n 1000000 dL_law_527 rfl ?_
  refine dr_iload_n l3 dL_law_528 rfl ?_
  refine dr_iconst (1 : Int32) dL_law_529 (by decide) ?_
  refine dr_iadd dL_law_530 ?_
  obtain ⟨x1, e2, h⟩ := dtBind h
  refine dr_sload x1 dL_law_531 e2 ?_
  refine dr_aload_n 1000000 dL_law_532 rfl ?_
  refine dr_iload_n l3 dL_law_533 rfl ?_
  refine dr_iconst (2 : Int32) dL_law_534 (by decide) ?_
  refine dr_iadd dL_law_535 ?_
  obtain ⟨x3, e4, h⟩ := dtBind h
  refine dr_sload x3 dL_law_536 e4 ?_
  refine dr_aload_n 1000000 dL_law_537 rfl ?_
  refine dr_iload_n l3 dL_law_538 rfl ?_
  refine dr_iconst (3 : Int32) dL_law_539 (by decide) ?_
  refine dr_iadd dL_law_540 ?_
  obtain ⟨x5, e6, h⟩ := dtBind h
  refine dr_sload x5 dL_law_541 e6 ?_
  refine dr_aload_n 1000000 dL_law_542 rfl ?_
  refine dr_iload_n l3 dL_law_543 rfl ?_
  refine dr_iconst (4 : Int32) dL_law_544 (by decide) ?_
  refine dr_iadd dL_law_545 ?_
  obtain ⟨x7, e8, h⟩ := dtBind h
  refine dr_sload x7 dL_law_546 e8 ?_
  refine dr_aload_n 1000000 dL_law_547 rfl ?_
  refine dr_iload_n l3 dL_law_548 rfl ?_
  refine dr_iconst (5 : Int32) dL_law_549 (by decide) ?_
  refine dr_iadd dL_law_550 ?_
  obtain ⟨x9, e10, h⟩ := dtBind h
  refine dr_sload x9 dL_law_551 e10 ?_
  obtain ⟨_, hb11, h⟩ := dtBind h
  obtain ⟨x14, μ12, e13, h⟩ := dtCall h
  refine dr_callV_i (S0 := []) [.int x1, .int x3, .int x5, .int x7, .int x9] x14 μ12 dL_law_552 (c_X11_feed l1 x1 x3 x5 x7 x9 μ e13) mf_X11_feed wt_524 wt_525 wt_523 rfl (dtRv hb11) (by decide) rfl (Nat.le_of_ble_eq_true rfl) (Nat.le_of_ble_eq_true rfl) rfl ?_
  refine dr_aload_n l2 dL_law_555 rfl ?_
  refine dr_aload_n 1000000 dL_law_556 rfl ?_
  refine dr_iload_n l3 dL_law_557 rfl ?_
  refine dr_iconst (1 : Int32) dL_law_558 (by decide) ?_
  refine dr_iadd dL_law_559 ?_
  obtain ⟨x15, e16, h⟩ := dtBind h
  refine dr_sload x15 dL_law_560 e16 ?_
  refine dr_aload_n 1000000 dL_law_561 rfl ?_
  refine dr_iload_n l3 dL_law_562 rfl ?_
  refine dr_iconst (2 : Int32) dL_law_563 (by decide) ?_
  refine dr_iadd dL_law_564 ?_
  obtain ⟨x17, e18, h⟩ := dtBind h
  refine dr_sload x17 dL_law_565 e18 ?_
  refine dr_aload_n 1000000 dL_law_566 rfl ?_
  refine dr_iload_n l3 dL_law_567 rfl ?_
  refine dr_iconst (3 : Int32) dL_law_568 (by decide) ?_
  refine dr_iadd dL_law_569 ?_
  obtain ⟨x19, e20, h⟩ := dtBind h
  refine dr_sload x19 dL_law_570 e20 ?_
  refine dr_aload_n 1000000 dL_law_571 rfl ?_
  refine dr_iload_n l3 dL_law_572 rfl ?_
  refine dr_iconst (4 : Int32) dL_law_573 (by decide) ?_
  refine dr_iadd dL_law_574 ?_
  obtain ⟨x21, e22, h⟩ := dtBind h
  refine dr_sload x21 dL_law_575 e22 ?_
  refine dr_aload_n 1000000 dL_law_576 rfl ?_
  refine dr_iload_n l3 dL_law_577 rfl ?_
  refine dr_iconst (5 : Int32) dL_law_578 (by decide) ?_
  refine dr_iadd dL_law_579 ?_
  obtain ⟨x23, e24, h⟩ := dtBind h
  refine dr_sload x23 dL_law_580 e24 ?_
  obtain ⟨_, hb25, h⟩ := dtBind h
  obtain ⟨x28, μ26, e27, h⟩ := dtCall h
  refine dr_callV_i (S0 := [.int x14]) [.int x15, .int x17, .int x19, .int x21, .int x23] x28 μ26 dL_law_581 (c_X12_feed l2 x15 x17 x19 x21 x23 μ12 e27) mf_X12_feed wt_1515 wt_1516 wt_1514 rfl (dtRv hb25) (by decide) rfl (Nat.le_of_ble_eq_true rfl) (Nat.le_of_ble_eq_true rfl) rfl ?_
  obtain ⟨ht30, hf31⟩ := dtIte h
  refine dr_icmp_eq 2079 dL_law_584 (by decide) (fun hc29 => ?_) (fun hc29 => ?_)
  · have h := ht30 hc29
    exact c_L_law_2079 k18 hk18 l1 l2 l3 μ26 h
  · have h := hf31 hc29
    refine dr_iconst (0 : Int32) dL_law_587 (by decide) ?_
    obtain ⟨hz, rfl, rfl⟩ := dtRet h
    exact dr_ireturn dL_law_588 (dtNz hz)
set_option maxRecDepth 100000 in
theorem c_L_law_589 {r : Int32} {F : dtM} (k18 : Nat → Nat → Int32 → dtM → Option (Int32 × dtM)) (hk18 : ∀ (l1 : Nat) (l2 : Nat) (l3 : Int32) (μ : dtM), k18 l1 l2 l3 μ = some (r, F) → dtW yL_law cL_law 4 (some .boolean) 49 (some (.int r)) F 18 [some (.ref 1000000), some (.ref l1), some (.ref l2), some (.int l3)] [] μ) (l1 : Nat) (l2 : Nat) (l3 : Int32) (μ : dtM) (h : f_L_law_589 k18 l1 l2 l3 μ = some (r, F)) : dtW yL_law cL_law 4 (some .boolean) 49 (some (.int r)) F 589 [some (.ref 1000000), some (.ref l1), some (.ref l2), some (.int l3)] [] μ := by
  rw [f_L_law_589] at h
  refine dr_aload_n l1 dL_law_589 rfl ?_
  refine dr_aload_n 1000000 dL_law_590 rfl ?_
  refine dr_iload_n l3 dL_law_591 rfl ?_
  refine dr_iconst (1 : Int32) dL_law_592 (by decide) ?_
  refine dr_iadd dL_law_593 ?_
  obtain ⟨x1, e2, h⟩ := dtBind h
  refine dr_sload x1 dL_law_594 e2 ?_
  obtain ⟨_, hb3, h⟩ := dtBind h
  obtain ⟨x6, μ4, e5, h⟩ := dtCall h
  refine dr_callV_i (S0 := []) [.int x1] x6 μ4 dL_law_595 (c_X11_house l1 x1 μ e5) mf_X11_house wt_532 wt_533 wt_531 rfl (dtRv hb3) (by decide) rfl (Nat.le_of_ble_eq_true rfl) (Nat.le_of_ble_eq_true rfl) rfl ?_
  refine dr_aload_n l2 dL_law_598 rfl ?_
  refine dr_aload_n 1000000 dL_law_599 rfl ?_
  refine dr_iload_n l3 dL_law_600 rfl ?_
  refine dr_iconst (1 : Int32) dL_law_601 (by decide) ?_
  refine dr_iadd dL_law_602 ?_
  obtain ⟨x7, e8, h⟩ := dtBind h
  refine dr_sload x7 dL_law_603 e8 ?_
  obtain ⟨_, hb9, h⟩ := dtBind h
  obtain ⟨x12, μ10, e11, h⟩ := dtCall h
  refine dr_callV_i (S0 := [.int x6]) [.int x7] x12 μ10 dL_law_604 (c_X12_house l2 x7 μ4 e11) mf_X12_house wt_1527 wt_1528 wt_1526 rfl (dtRv hb9) (by decide) rfl (Nat.le_of_ble_eq_true rfl) (Nat.le_of_ble_eq_true rfl) rfl ?_
  obtain ⟨ht14, hf15⟩ := dtIte h
  refine dr_icmp_eq 2079 dL_law_607 (by decide) (fun hc13 => ?_) (fun hc13 => ?_)
  · have h := ht14 hc13
    exact c_L_law_2079 k18 hk18 l1 l2 l3 μ10 h
  · have h := hf15 hc13
    refine dr_iconst (0 : Int32) dL_law_610 (by decide) ?_
    obtain ⟨hz, rfl, rfl⟩ := dtRet h
    exact dr_ireturn dL_law_611 (dtNz hz)
set_option maxRecDepth 100000 in
theorem c_L_law_612 {r : Int32} {F : dtM} (k18 : Nat → Nat → Int32 → dtM → Option (Int32 × dtM)) (hk18 : ∀ (l1 : Nat) (l2 : Nat) (l3 : Int32) (μ : dtM), k18 l1 l2 l3 μ = some (r, F) → dtW yL_law cL_law 4 (some .boolean) 49 (some (.int r)) F 18 [some (.ref 1000000), some (.ref l1), some (.ref l2), some (.int l3)] [] μ) (l1 : Nat) (l2 : Nat) (l3 : Int32) (μ : dtM) (h : f_L_law_612 k18 l1 l2 l3 μ = some (r, F)) : dtW yL_law cL_law 4 (some .boolean) 49 (some (.int r)) F 612 [some (.ref 1000000), some (.ref l1), some (.ref l2), some (.int l3)] [] μ := by
  rw [f_L_law_612] at h
  refine dr_aload_n l1 dL_law_612 rfl ?_
  refine dr_aload_n 1000000 dL_law_613 rfl ?_
  refine dr_iload_n l3 dL_law_614 rfl ?_
  refine dr_iconst (1 : Int32) dL_law_615 (by decide) ?_
  refine dr_iadd dL_law_616 ?_
  obtain ⟨x1, e2, h⟩ := dtBind h
  refine dr_sload x1 dL_law_617 e2 ?_
  obtain ⟨_, hb3, h⟩ := dtBind h
  obtain ⟨x6, μ4, e5, h⟩ := dtCall h
  refine dr_callV_i (S0 := []) [.int x1] x6 μ4 dL_law_618 (c_X11_days l1 x1 μ e5) mf_X11_days wt_767 wt_768 wt_766 rfl (dtRv hb3) (by decide) rfl (Nat.le_of_ble_eq_true rfl) (Nat.le_of_ble_eq_true rfl) rfl ?_
  refine dr_aload_n l2 dL_law_621 rfl ?_
  refine dr_aload_n 1000000 dL_law_622 rfl ?_
  refine dr_iload_n l3 dL_law_623 rfl ?_
  refine dr_iconst (1 : Int32) dL_law_624 (by decide) ?_
  refine dr_iadd dL_law_625 ?_
  obtain ⟨x7, e8, h⟩ := dtBind h
  refine dr_sload x7 dL_law_626 e8 ?_
  obtain ⟨_, hb9, h⟩ := dtBind h
  obtain ⟨x12, μ10, e11, h⟩ := dtCall h
  refine dr_callV_i (S0 := [.int x6]) [.int x7] x12 μ10 dL_law_627 (c_X12_days l2 x7 μ4 e11) mf_X12_days wt_1671 wt_1672 wt_1670 rfl (dtRv hb9) (by decide) rfl (Nat.le_of_ble_eq_true rfl) (Nat.le_of_ble_eq_true rfl) rfl ?_
  obtain ⟨ht14, hf15⟩ := dtIte h
  refine dr_icmp_eq 2079 dL_law_630 (by decide) (fun hc13 => ?_) (fun hc13 => ?_)
  · have h := ht14 hc13
    exact c_L_law_2079 k18 hk18 l1 l2 l3 μ10 h
  · have h := hf15 hc13
    refine dr_iconst (0 : Int32) dL_law_633 (by decide) ?_
    obtain ⟨hz, rfl, rfl⟩ := dtRet h
    exact dr_ireturn dL_law_634 (dtNz hz)
set_option maxRecDepth 100000 in
theorem c_L_law_635 {r : Int32} {F : dtM} (k18 : Nat → Nat → Int32 → dtM → Option (Int32 × dtM)) (hk18 : ∀ (l1 : Nat) (l2 : Nat) (l3 : Int32) (μ : dtM), k18 l1 l2 l3 μ = some (r, F) → dtW yL_law cL_law 4 (some .boolean) 49 (some (.int r)) F 18 [some (.ref 1000000), some (.ref l1), some (.ref l2), some (.int l3)] [] μ) (l1 : Nat) (l2 : Nat) (l3 : Int32) (μ : dtM) (h : f_L_law_635 k18 l1 l2 l3 μ = some (r, F)) : dtW yL_law cL_law 4 (some .boolean) 49 (some (.int r)) F 635 [some (.ref 1000000), some (.ref l1), some (.ref l2), some (.int l3)] [] μ := by
  rw [f_L_law_635] at h
  refine dr_aload_n l1 dL_law_635 rfl ?_
  refine dr_aload_n 1000000 dL_law_636 rfl ?_
  refine dr_iload_n l3 dL_law_637 rfl ?_
  refine dr_iconst (1 : Int32) dL_law_638 (by decide) ?_
  refine dr_iadd dL_law_639 ?_
  obtain ⟨x1, e2, h⟩ := dtBind h
  refine dr_sload x1 dL_law_640 e2 ?_
  obtain ⟨_, hb3, h⟩ := dtBind h
  obtain ⟨x6, μ4, e5, h⟩ := dtCall h
  refine dr_callV_i (S0 := []) [.int x1] x6 μ4 dL_law_641 (c_X11_fault l1 x1 μ e5) mf_X11_fault wt_829 wt_830 wt_828 rfl (dtRv hb3) (by decide) rfl (Nat.le_of_ble_eq_true rfl) (Nat.le_of_ble_eq_true rfl) rfl ?_
  refine dr_aload_n l2 dL_law_644 rfl ?_
  refine dr_aload_n 1000000 dL_law_645 rfl ?_
  refine dr_iload_n l3 dL_law_646 rfl ?_
  refine dr_iconst (1 : Int32) dL_law_647 (by decide) ?_
  refine dr_iadd dL_law_648 ?_
  obtain ⟨x7, e8, h⟩ := dtBind h
  refine dr_sload x7 dL_law_649 e8 ?_
  obtain ⟨_, hb9, h⟩ := dtBind h
  obtain ⟨x12, μ10, e11, h⟩ := dtCall h
  refine dr_callV_i (S0 := [.int x6]) [.int x7] x12 μ10 dL_law_650 (c_X12_fault l2 x7 μ4 e11) mf_X12_fault wt_1523 wt_1524 wt_1522 rfl (dtRv hb9) (by decide) rfl (Nat.le_of_ble_eq_true rfl) (Nat.le_of_ble_eq_true rfl) rfl ?_
  obtain ⟨ht14, hf15⟩ := dtIte h
  refine dr_icmp_eq 2079 dL_law_653 (by decide) (fun hc13 => ?_) (fun hc13 => ?_)
  · have h := ht14 hc13
    exact c_L_law_2079 k18 hk18 l1 l2 l3 μ10 h
  · have h := hf15 hc13
    refine dr_iconst (0 : Int32) dL_law_656 (by decide) ?_
    obtain ⟨hz, rfl, rfl⟩ := dtRet h
    exact dr_ireturn dL_law_657 (dtNz hz)
set_option maxRecDepth 100000 in
theorem c_L_law_658 {r : Int32} {F : dtM} (k18 : Nat → Nat → Int32 → dtM → Option (Int32 × dtM)) (hk18 : ∀ (l1 : Nat) (l2 : Nat) (l3 : Int32) (μ : dtM), k18 l1 l2 l3 μ = some (r, F) → dtW yL_law cL_law 4 (some .boolean) 49 (some (.int r)) F 18 [some (.ref 1000000), some (.ref l1), some (.ref l2), some (.int l3)] [] μ) (l1 : Nat) (l2 : Nat) (l3 : Int32) (μ : dtM) (h : f_L_law_658 k18 l1 l2 l3 μ = some (r, F)) : dtW yL_law cL_law 4 (some .boolean) 49 (some (.int r)) F 658 [some (.ref 1000000), some (.ref l1), some (.ref l2), some (.int l3)] [] μ := by
  rw [f_L_law_658] at h
  refine dr_aload_n l1 dL_law_658 rfl ?_
  refine dr_aload_n 1000000 dL_law_659 rfl ?_
  refine dr_iload_n l3 dL_law_660 rfl ?_
  refine dr_iconst (1 : Int32) dL_law_661 (by decide) ?_
  refine dr_iadd dL_law_662 ?_
  obtain ⟨x1, e2, h⟩ := dtBind h
  refine dr_sload x1 dL_law_663 e2 ?_
  obtain ⟨_, hb3, h⟩ := dtBind h
  obtain ⟨x6, μ4, e5, h⟩ := dtCall h
  refine dr_callV_i (S0 := []) [.int x1] x6 μ4 dL_law_664 (c_X11_told l1 x1 μ e5) mf_X11_told wt_833 wt_834 wt_832 rfl (dtRv hb3) (by decide) rfl (Nat.le_of_ble_eq_true rfl) (Nat.le_of_ble_eq_true rfl) rfl ?_
  refine dr_aload_n l2 dL_law_667 rfl ?_
  refine dr_aload_n 1000000 dL_law_668 rfl ?_
  refine dr_iload_n l3 dL_law_669 rfl ?_
  refine dr_iconst (1 : Int32) dL_law_670 (by decide) ?_
  refine dr_iadd dL_law_671 ?_
  obtain ⟨x7, e8, h⟩ := dtBind h
  refine dr_sload x7 dL_law_672 e8 ?_
  obtain ⟨_, hb9, h⟩ := dtBind h
  obtain ⟨x12, μ10, e11, h⟩ := dtCall h
  refine dr_callV_i (S0 := [.int x6]) [.int x7] x12 μ10 dL_law_673 (c_X12_told l2 x7 μ4 e11) mf_X12_told wt_1699 wt_1700 wt_1698 rfl (dtRv hb9) (by decide) rfl (Nat.le_of_ble_eq_true rfl) (Nat.le_of_ble_eq_true rfl) rfl ?_
  obtain ⟨ht14, hf15⟩ := dtIte h
  refine dr_icmp_eq 2079 dL_law_676 (by decide) (fun hc13 => ?_) (fun hc13 => ?_)
  · have h := ht14 hc13
    exact c_L_law_2079 k18 hk18 l1 l2 l3 μ10 h
  · have h := hf15 hc13
    refine dr_iconst (0 : Int32) dL_law_679 (by decide) ?_
    obtain ⟨hz, rfl, rfl⟩ := dtRet h
    exact dr_ireturn dL_law_680 (dtNz hz)
set_option maxRecDepth 100000 in
theorem c_L_law_681 {r : Int32} {F : dtM} (k18 : Nat → Nat → Int32 → dtM → Option (Int32 × dtM)) (hk18 : ∀ (l1 : Nat) (l2 : Nat) (l3 : Int32) (μ : dtM), k18 l1 l2 l3 μ = some (r, F) → dtW yL_law cL_law 4 (some .boolean) 49 (some (.int r)) F 18 [some (.ref 1000000), some (.ref l1), some (.ref l2), some (.int l3)] [] μ) (l1 : Nat) (l2 : Nat) (l3 : Int32) (μ : dtM) (h : f_L_law_681 k18 l1 l2 l3 μ = some (r, F)) : dtW yL_law cL_law 4 (some .boolean) 49 (some (.int r)) F 681 [some (.ref 1000000), some (.ref l1), some (.ref l2), some (.int l3)] [] μ := by
  rw [f_L_law_681] at h
  refine dr_aload_n l1 dL_law_681 rfl ?_
  refine dr_aload_n 1000000 dL_law_682 rfl ?_
  refine dr_iload_n l3 dL_law_683 rfl ?_
  refine dr_iconst (1 : Int32) dL_law_684 (by decide) ?_
  refine dr_iadd dL_law_685 ?_
  obtain ⟨x1, e2, h⟩ := dtBind h
  refine dr_sload x1 dL_law_686 e2 ?_
  refine dr_aload_n 1000000 dL_law_687 rfl ?_
  refine dr_iload_n l3 dL_law_688 rfl ?_
  refine dr_iconst (2 : Int32) dL_law_689 (by decide) ?_
  refine dr_iadd dL_law_690 ?_
  obtain ⟨x3, e4, h⟩ := dtBind h
  refine dr_sload x3 dL_law_691 e4 ?_
  obtain ⟨_, hb5, h⟩ := dtBind h
  obtain ⟨x8, μ6, e7, h⟩ := dtCall h
  refine dr_callV_i (S0 := []) [.int x1, .int x3] x8 μ6 dL_law_692 (c_X11_door l1 x1 x3 μ e7) mf_X11_door wt_837 wt_838 wt_836 rfl (dtRv hb5) (by decide) rfl (Nat.le_of_ble_eq_true rfl) (Nat.le_of_ble_eq_true rfl) rfl ?_
  refine dr_aload_n l2 dL_law_695 rfl ?_
  refine dr_aload_n 1000000 dL_law_696 rfl ?_
  refine dr_iload_n l3 dL_law_697 rfl ?_
  refine dr_iconst (1 : Int32) dL_law_698 (by decide) ?_
  refine dr_iadd dL_law_699 ?_
  obtain ⟨x9, e10, h⟩ := dtBind h
  refine dr_sload x9 dL_law_700 e10 ?_
  refine dr_aload_n 1000000 dL_law_701 rfl ?_
  refine dr_iload_n l3 dL_law_702 rfl ?_
  refine dr_iconst (2 : Int32) dL_law_703 (by decide) ?_
  refine dr_iadd dL_law_704 ?_
  obtain ⟨x11, e12, h⟩ := dtBind h
  refine dr_sload x11 dL_law_705 e12 ?_
  obtain ⟨_, hb13, h⟩ := dtBind h
  obtain ⟨x16, μ14, e15, h⟩ := dtCall h
  refine dr_callV_i (S0 := [.int x8]) [.int x9, .int x11] x16 μ14 dL_law_706 (c_X12_door l2 x9 x11 μ6 e15) mf_X12_door wt_1703 wt_1704 wt_1702 rfl (dtRv hb13) (by decide) rfl (Nat.le_of_ble_eq_true rfl) (Nat.le_of_ble_eq_true rfl) rfl ?_
  obtain ⟨ht18, hf19⟩ := dtIte h
  refine dr_icmp_eq 2079 dL_law_709 (by decide) (fun hc17 => ?_) (fun hc17 => ?_)
  · have h := ht18 hc17
    exact c_L_law_2079 k18 hk18 l1 l2 l3 μ14 h
  · have h := hf19 hc17
    refine dr_iconst (0 : Int32) dL_law_712 (by decide) ?_
    obtain ⟨hz, rfl, rfl⟩ := dtRet h
    exact dr_ireturn dL_law_713 (dtNz hz)
set_option maxRecDepth 100000 in
theorem c_L_law_714 {r : Int32} {F : dtM} (k18 : Nat → Nat → Int32 → dtM → Option (Int32 × dtM)) (hk18 : ∀ (l1 : Nat) (l2 : Nat) (l3 : Int32) (μ : dtM), k18 l1 l2 l3 μ = some (r, F) → dtW yL_law cL_law 4 (some .boolean) 49 (some (.int r)) F 18 [some (.ref 1000000), some (.ref l1), some (.ref l2), some (.int l3)] [] μ) (l1 : Nat) (l2 : Nat) (l3 : Int32) (μ : dtM) (h : f_L_law_714 k18 l1 l2 l3 μ = some (r, F)) : dtW yL_law cL_law 4 (some .boolean) 49 (some (.int r)) F 714 [some (.ref 1000000), some (.ref l1), some (.ref l2), some (.int l3)] [] μ := by
  rw [f_L_law_714] at h
  refine dr_aload_n l1 dL_law_714 rfl ?_
  refine dr_aload_n 1000000 dL_law_715 rfl ?_
  refine dr_iload_n l3 dL_law_716 rfl ?_
  refine dr_iconst (1 : Int32) dL_law_717 (by decide) ?_
  refine dr_iadd dL_law_718 ?_
  obtain ⟨x1, e2, h⟩ := dtBind h
  refine dr_sload x1 dL_law_719 e2 ?_
  obtain ⟨_, hb3, h⟩ := dtBind h
  obtain ⟨x6, μ4, e5, h⟩ := dtCall h
  refine dr_callV_i (S0 := []) [.int x1] x6 μ4 dL_law_720 (c_X11_says l1 x1 μ e5) mf_X11_says wt_850 wt_851 wt_849 rfl (dtRv hb3) (by decide) rfl (Nat.le_of_ble_eq_true rfl) (Nat.le_of_ble_eq_true rfl) rfl ?_
  refine dr_aload_n l2 dL_law_723 rfl ?_
  refine dr_aload_n 1000000 dL_law_724 rfl ?_
  refine dr_iload_n l3 dL_law_725 rfl ?_
  refine dr_iconst (1 : Int32) dL_law_726 (by decide) ?_
  refine dr_iadd dL_law_727 ?_
  obtain ⟨x7, e8, h⟩ := dtBind h
  refine dr_sload x7 dL_law_728 e8 ?_
  obtain ⟨_, hb9, h⟩ := dtBind h
  obtain ⟨x12, μ10, e11, h⟩ := dtCall h
  refine dr_callV_i (S0 := [.int x6]) [.int x7] x12 μ10 dL_law_729 (c_X12_says l2 x7 μ4 e11) mf_X12_says wt_1715 wt_1716 wt_1714 rfl (dtRv hb9) (by decide) rfl (Nat.le_of_ble_eq_true rfl) (Nat.le_of_ble_eq_true rfl) rfl ?_
  obtain ⟨ht14, hf15⟩ := dtIte h
  refine dr_icmp_eq 2079 dL_law_732 (by decide) (fun hc13 => ?_) (fun hc13 => ?_)
  · have h := ht14 hc13
    exact c_L_law_2079 k18 hk18 l1 l2 l3 μ10 h
  · have h := hf15 hc13
    refine dr_iconst (0 : Int32) dL_law_735 (by decide) ?_
    obtain ⟨hz, rfl, rfl⟩ := dtRet h
    exact dr_ireturn dL_law_736 (dtNz hz)
set_option maxRecDepth 100000 in
theorem c_L_law_737 {r : Int32} {F : dtM} (k18 : Nat → Nat → Int32 → dtM → Option (Int32 × dtM)) (hk18 : ∀ (l1 : Nat) (l2 : Nat) (l3 : Int32) (μ : dtM), k18 l1 l2 l3 μ = some (r, F) → dtW yL_law cL_law 4 (some .boolean) 49 (some (.int r)) F 18 [some (.ref 1000000), some (.ref l1), some (.ref l2), some (.int l3)] [] μ) (l1 : Nat) (l2 : Nat) (l3 : Int32) (μ : dtM) (h : f_L_law_737 k18 l1 l2 l3 μ = some (r, F)) : dtW yL_law cL_law 4 (some .boolean) 49 (some (.int r)) F 737 [some (.ref 1000000), some (.ref l1), some (.ref l2), some (.int l3)] [] μ := by
  rw [f_L_law_737] at h
  refine dr_aload_n l1 dL_law_737 rfl ?_
  refine dr_aload_n 1000000 dL_law_738 rfl ?_
  refine dr_iload_n l3 dL_law_739 rfl ?_
  refine dr_iconst (1 : Int32) dL_law_740 (by decide) ?_
  refine dr_iadd dL_law_741 ?_
  obtain ⟨x1, e2, h⟩ := dtBind h
  refine dr_sload x1 dL_law_742 e2 ?_
  refine dr_aload_n 1000000 dL_law_743 rfl ?_
  refine dr_iload_n l3 dL_law_744 rfl ?_
  refine dr_iconst (2 : Int32) dL_law_745 (by decide) ?_
  refine dr_iadd dL_law_746 ?_
  obtain ⟨x3, e4, h⟩ := dtBind h
  refine dr_sload x3 dL_law_747 e4 ?_
  obtain ⟨_, hb5, h⟩ := dtBind h
  obtain ⟨x8, μ6, e7, h⟩ := dtCall h
  refine dr_callV_i (S0 := []) [.int x1, .int x3] x8 μ6 dL_law_748 (c_X11_saysAt l1 x1 x3 μ e7) mf_X11_saysAt wt_858 wt_859 wt_857 rfl (dtRv hb5) (by decide) rfl (Nat.le_of_ble_eq_true rfl) (Nat.le_of_ble_eq_true rfl) rfl ?_
  refine dr_aload_n l2 dL_law_751 rfl ?_
  refine dr_aload_n 1000000 dL_law_752 rfl ?_
  refine dr_iload_n l3 dL_law_753 rfl ?_
  refine dr_iconst (1 : Int32) dL_law_754 (by decide) ?_
  refine dr_iadd dL_law_755 ?_
  obtain ⟨x9, e10, h⟩ := dtBind h
  refine dr_sload x9 dL_law_756 e10 ?_
  refine dr_aload_n 1000000 dL_law_757 rfl ?_
  refine dr_iload_n l3 dL_law_758 rfl ?_
  refine dr_iconst (2 : Int32) dL_law_759 (by decide) ?_
  refine dr_iadd dL_law_760 ?_
  obtain ⟨x11, e12, h⟩ := dtBind h
  refine dr_sload x11 dL_law_761 e12 ?_
  obtain ⟨_, hb13, h⟩ := dtBind h
  obtain ⟨x16, μ14, e15, h⟩ := dtCall h
  refine dr_callV_i (S0 := [.int x8]) [.int x9, .int x11] x16 μ14 dL_law_762 (c_X12_saysAt l2 x9 x11 μ6 e15) mf_X12_saysAt wt_1723 wt_1724 wt_1722 rfl (dtRv hb13) (by decide) rfl (Nat.le_of_ble_eq_true rfl) (Nat.le_of_ble_eq_true rfl) rfl ?_
  obtain ⟨ht18, hf19⟩ := dtIte h
  refine dr_icmp_eq 2079 dL_law_765 (by decide) (fun hc17 => ?_) (fun hc17 => ?_)
  · have h := ht18 hc17
    exact c_L_law_2079 k18 hk18 l1 l2 l3 μ14 h
  · have h := hf19 hc17
    refine dr_iconst (0 : Int32) dL_law_768 (by decide) ?_
    obtain ⟨hz, rfl, rfl⟩ := dtRet h
    exact dr_ireturn dL_law_769 (dtNz hz)
set_option maxRecDepth 100000 in
theorem c_L_law_770 {r : Int32} {F : dtM} (k18 : Nat → Nat → Int32 → dtM → Option (Int32 × dtM)) (hk18 : ∀ (l1 : Nat) (l2 : Nat) (l3 : Int32) (μ : dtM), k18 l1 l2 l3 μ = some (r, F) → dtW yL_law cL_law 4 (some .boolean) 49 (some (.int r)) F 18 [some (.ref 1000000), some (.ref l1), some (.ref l2), some (.int l3)] [] μ) (l1 : Nat) (l2 : Nat) (l3 : Int32) (μ : dtM) (h : f_L_law_770 k18 l1 l2 l3 μ = some (r, F)) : dtW yL_law cL_law 4 (some .boolean) 49 (some (.int r)) F 770 [some (.ref 1000000), some (.ref l1), some (.ref l2), some (.int l3)] [] μ := by
  rw [f_L_law_770] at h
  refine dr_aload_n l1 dL_law_770 rfl ?_
  refine dr_aload_n 1000000 dL_law_771 rfl ?_
  refine dr_iload_n l3 dL_law_772 rfl ?_
  refine dr_iconst (1 : Int32) dL_law_773 (by decide) ?_
  refine dr_iadd dL_law_774 ?_
  obtain ⟨x1, e2, h⟩ := dtBind h
  refine dr_sload x1 dL_law_775 e2 ?_
  refine dr_aload_n 1000000 dL_law_776 rfl ?_
  refine dr_iload_n l3 dL_law_777 rfl ?_
  refine dr_iconst (2 : Int32) dL_law_778 (by decide) ?_
  refine dr_iadd dL_law_779 ?_
  obtain ⟨x3, e4, h⟩ := dtBind h
  refine dr_sload x3 dL_law_780 e4 ?_
  obtain ⟨_, hb5, h⟩ := dtBind h
  obtain ⟨x8, μ6, e7, h⟩ := dtCall h
  refine dr_callV_i (S0 := []) [.int x1, .int x3] x8 μ6 dL_law_781 (c_X11_person l1 x1 x3 μ e7) mf_X11_person wt_863 wt_864 wt_862 rfl (dtRv hb5) (by decide) rfl (Nat.le_of_ble_eq_true rfl) (Nat.le_of_ble_eq_true rfl) rfl ?_
  refine dr_aload_n l2 dL_law_784 rfl ?_
  refine dr_aload_n 1000000 dL_law_785 rfl ?_
  refine dr_iload_n l3 dL_law_786 rfl ?_
  refine dr_iconst (1 : Int32) dL_law_787 (by decide) ?_
  refine dr_iadd dL_law_788 ?_
  obtain ⟨x9, e10, h⟩ := dtBind h
  refine dr_sload x9 dL_law_789 e10 ?_
  refine dr_aload_n 1000000 dL_law_790 rfl ?_
  refine dr_iload_n l3 dL_law_791 rfl ?_
  refine dr_iconst (2 : Int32) dL_law_792 (by decide) ?_
  refine dr_iadd dL_law_793 ?_
  obtain ⟨x11, e12, h⟩ := dtBind h
  refine dr_sload x11 dL_law_794 e12 ?_
  obtain ⟨_, hb13, h⟩ := dtBind h
  obtain ⟨x16, μ14, e15, h⟩ := dtCall h
  refine dr_callV_i (S0 := [.int x8]) [.int x9, .int x11] x16 μ14 dL_law_795 (c_X12_person l2 x9 x11 μ6 e15) mf_X12_person wt_1727 wt_1728 wt_1726 rfl (dtRv hb13) (by decide) rfl (Nat.le_of_ble_eq_true rfl) (Nat.le_of_ble_eq_true rfl) rfl ?_
  obtain ⟨ht18, hf19⟩ := dtIte h
  refine dr_icmp_eq 2079 dL_law_798 (by decide) (fun hc17 => ?_) (fun hc17 => ?_)
  · have h := ht18 hc17
    exact c_L_law_2079 k18 hk18 l1 l2 l3 μ14 h
  · have h := hf19 hc17
    refine dr_iconst (0 : Int32) dL_law_801 (by decide) ?_
    obtain ⟨hz, rfl, rfl⟩ := dtRet h
    exact dr_ireturn dL_law_802 (dtNz hz)
set_option maxRecDepth 100000 in
theorem c_L_law_803 {r : Int32} {F : dtM} (k18 : Nat → Nat → Int32 → dtM → Option (Int32 × dtM)) (hk18 : ∀ (l1 : Nat) (l2 : Nat) (l3 : Int32) (μ : dtM), k18 l1 l2 l3 μ = some (r, F) → dtW yL_law cL_law 4 (some .boolean) 49 (some (.int r)) F 18 [some (.ref 1000000), some (.ref l1), some (.ref l2), some (.int l3)] [] μ) (l1 : Nat) (l2 : Nat) (l3 : Int32) (μ : dtM) (h : f_L_law_803 k18 l1 l2 l3 μ = some (r, F)) : dtW yL_law cL_law 4 (some .boolean) 49 (some (.int r)) F 803 [some (.ref 1000000), some (.ref l1), some (.ref l2), some (.int l3)] [] μ := by
  rw [f_L_law_803] at h
  refine dr_aload_n l1 dL_law_803 rfl ?_
  refine dr_aload_n 1000000 dL_law_804 rfl ?_
  refine dr_iload_n l3 dL_law_805 rfl ?_
  refine dr_iconst (1 : Int32) dL_law_806 (by decide) ?_
  refine dr_iadd dL_law_807 ?_
  obtain ⟨x1, e2, h⟩ := dtBind h
  refine dr_sload x1 dL_law_808 e2 ?_
  refine dr_aload_n 1000000 dL_law_809 rfl ?_
  refine dr_iload_n l3 dL_law_810 rfl ?_
  refine dr_iconst (2 : Int32) dL_law_811 (by decide) ?_
  refine dr_iadd dL_law_812 ?_
  obtain ⟨x3, e4, h⟩ := dtBind h
  refine dr_sload x3 dL_law_813 e4 ?_
  obtain ⟨_, hb5, h⟩ := dtBind h
  obtain ⟨x8, μ6, e7, h⟩ := dtCall h
  refine dr_callV_i (S0 := []) [.int x1, .int x3] x8 μ6 dL_law_814 (c_X11_heardAt l1 x1 x3 μ e7) mf_X11_heardAt wt_871 wt_872 wt_870 rfl (dtRv hb5) (by decide) rfl (Nat.le_of_ble_eq_true rfl) (Nat.le_of_ble_eq_true rfl) rfl ?_
  refine dr_aload_n l2 dL_law_817 rfl ?_
  refine dr_aload_n 1000000 dL_law_818 rfl ?_
  refine dr_iload_n l3 dL_law_819 rfl ?_
  refine dr_iconst (1 : Int32) dL_law_820 (by decide) ?_
  refine dr_iadd dL_law_821 ?_
  obtain ⟨x9, e10, h⟩ := dtBind h
  refine dr_sload x9 dL_law_822 e10 ?_
  refine dr_aload_n 1000000 dL_law_823 rfl ?_
  refine dr_iload_n l3 dL_law_824 rfl ?_
  refine dr_iconst (2 : Int32) dL_law_825 (by decide) ?_
  refine dr_iadd dL_law_826 ?_
  obtain ⟨x11, e12, h⟩ := dtBind h
  refine dr_sload x11 dL_law_827 e12 ?_
  obtain ⟨_, hb13, h⟩ := dtBind h
  obtain ⟨x16, μ14, e15, h⟩ := dtCall h
  refine dr_callV_i (S0 := [.int x8]) [.int x9, .int x11] x16 μ14 dL_law_828 (c_X12_heardAt l2 x9 x11 μ6 e15) mf_X12_heardAt wt_1739 wt_1740 wt_1738 rfl (dtRv hb13) (by decide) rfl (Nat.le_of_ble_eq_true rfl) (Nat.le_of_ble_eq_true rfl) rfl ?_
  obtain ⟨ht18, hf19⟩ := dtIte h
  refine dr_icmp_eq 2079 dL_law_831 (by decide) (fun hc17 => ?_) (fun hc17 => ?_)
  · have h := ht18 hc17
    exact c_L_law_2079 k18 hk18 l1 l2 l3 μ14 h
  · have h := hf19 hc17
    refine dr_iconst (0 : Int32) dL_law_834 (by decide) ?_
    obtain ⟨hz, rfl, rfl⟩ := dtRet h
    exact dr_ireturn dL_law_835 (dtNz hz)
set_option maxRecDepth 100000 in
theorem c_L_law_836 {r : Int32} {F : dtM} (k18 : Nat → Nat → Int32 → dtM → Option (Int32 × dtM)) (hk18 : ∀ (l1 : Nat) (l2 : Nat) (l3 : Int32) (μ : dtM), k18 l1 l2 l3 μ = some (r, F) → dtW yL_law cL_law 4 (some .boolean) 49 (some (.int r)) F 18 [some (.ref 1000000), some (.ref l1), some (.ref l2), some (.int l3)] [] μ) (l1 : Nat) (l2 : Nat) (l3 : Int32) (μ : dtM) (h : f_L_law_836 k18 l1 l2 l3 μ = some (r, F)) : dtW yL_law cL_law 4 (some .boolean) 49 (some (.int r)) F 836 [some (.ref 1000000), some (.ref l1), some (.ref l2), some (.int l3)] [] μ := by
  rw [f_L_law_836] at h
  refine dr_aload_n l1 dL_law_836 rfl ?_
  refine dr_aload_n 1000000 dL_law_837 rfl ?_
  refine dr_iload_n l3 dL_law_838 rfl ?_
  refine dr_iconst (1 : Int32) dL_law_839 (by decide) ?_
  refine dr_iadd dL_law_840 ?_
  obtain ⟨x1, e2, h⟩ := dtBind h
  refine dr_sload x1 dL_law_841 e2 ?_
  refine dr_aload_n 1000000 dL_law_842 rfl ?_
  refine dr_iload_n l3 dL_law_843 rfl ?_
  refine dr_iconst (2 : Int32) dL_law_844 (by decide) ?_
  refine dr_iadd dL_law_845 ?_
  obtain ⟨x3, e4, h⟩ := dtBind h
  refine dr_sload x3 dL_law_846 e4 ?_
  refine dr_aload_n 1000000 dL_law_847 rfl ?_
  refine dr_iload_n l3 dL_law_848 rfl ?_
  refine dr_iconst (3 : Int32) dL_law_849 (by decide) ?_
  refine dr_iadd dL_law_850 ?_
  obtain ⟨x5, e6, h⟩ := dtBind h
  refine dr_sload x5 dL_law_851 e6 ?_
  obtain ⟨_, hb7, h⟩ := dtBind h
  obtain ⟨x10, μ8, e9, h⟩ := dtCall h
  refine dr_callV_i (S0 := []) [.int x1, .int x3, .int x5] x10 μ8 dL_law_852 (c_X11_close l1 x1 x3 x5 μ e9) mf_X11_close wt_875 wt_876 wt_874 rfl (dtRv hb7) (by decide) rfl (Nat.le_of_ble_eq_true rfl) (Nat.le_of_ble_eq_true rfl) rfl ?_
  refine dr_aload_n l2 dL_law_855 rfl ?_
  refine dr_aload_n 1000000 dL_law_856 rfl ?_
  refine dr_iload_n l3 dL_law_857 rfl ?_
  refine dr_iconst (1 : Int32) dL_law_858 (by decide) ?_
  refine dr_iadd dL_law_859 ?_
  obtain ⟨x11, e12, h⟩ := dtBind h
  refine dr_sload x11 dL_law_860 e12 ?_
  refine dr_aload_n 1000000 dL_law_861 rfl ?_
  refine dr_iload_n l3 dL_law_862 rfl ?_
  refine dr_iconst (2 : Int32) dL_law_863 (by decide) ?_
  refine dr_iadd dL_law_864 ?_
  obtain ⟨x13, e14, h⟩ := dtBind h
  refine dr_sload x13 dL_law_865 e14 ?_
  refine dr_aload_n 1000000 dL_law_866 rfl ?_
  refine dr_iload_n l3 dL_law_867 rfl ?_
  refine dr_iconst (3 : Int32) dL_law_868 (by decide) ?_
  refine dr_iadd dL_law_869 ?_
  obtain ⟨x15, e16, h⟩ := dtBind h
  refine dr_sload x15 dL_law_870 e16 ?_
  obtain ⟨_, hb17, h⟩ := dtBind h
  obtain ⟨x20, μ18, e19, h⟩ := dtCall h
  refine dr_callV_i (S0 := [.int x10]) [.int x11, .int x13, .int x15] x20 μ18 dL_law_871 (c_X12_close l2 x11 x13 x15 μ8 e19) mf_X12_close wt_1798 wt_1799 wt_1797 rfl (dtRv hb17) (by decide) rfl (Nat.le_of_ble_eq_true rfl) (Nat.le_of_ble_eq_true rfl) rfl ?_
  obtain ⟨ht22, hf23⟩ := dtIte h
  refine dr_icmp_eq 2079 dL_law_874 (by decide) (fun hc21 => ?_) (fun hc21 => ?_)
  · have h := ht22 hc21
    exact c_L_law_2079 k18 hk18 l1 l2 l3 μ18 h
  · have h := hf23 hc21
    refine dr_iconst (0 : Int32) dL_law_877 (by decide) ?_
    obtain ⟨hz, rfl, rfl⟩ := dtRet h
    exact dr_ireturn dL_law_878 (dtNz hz)
set_option maxRecDepth 100000 in
theorem c_L_law_879 {r : Int32} {F : dtM} (k18 : Nat → Nat → Int32 → dtM → Option (Int32 × dtM)) (hk18 : ∀ (l1 : Nat) (l2 : Nat) (l3 : Int32) (μ : dtM), k18 l1 l2 l3 μ = some (r, F) → dtW yL_law cL_law 4 (some .boolean) 49 (some (.int r)) F 18 [some (.ref 1000000), some (.ref l1), some (.ref l2), some (.int l3)] [] μ) (l1 : Nat) (l2 : Nat) (l3 : Int32) (μ : dtM) (h : f_L_law_879 k18 l1 l2 l3 μ = some (r, F)) : dtW yL_law cL_law 4 (some .boolean) 49 (some (.int r)) F 879 [some (.ref 1000000), some (.ref l1), some (.ref l2), some (.int l3)] [] μ := by
  rw [f_L_law_879] at h
  refine dr_aload_n l1 dL_law_879 rfl ?_
  refine dr_aload_n 1000000 dL_law_880 rfl ?_
  refine dr_iload_n l3 dL_law_881 rfl ?_
  refine dr_iconst (1 : Int32) dL_law_882 (by decide) ?_
  refine dr_iadd dL_law_883 ?_
  obtain ⟨x1, e2, h⟩ := dtBind h
  refine dr_sload x1 dL_law_884 e2 ?_
  refine dr_aload_n 1000000 dL_law_885 rfl ?_
  refine dr_iload_n l3 dL_law_886 rfl ?_
  refine dr_iconst (2 : Int32) dL_law_887 (by decide) ?_
  refine dr_iadd dL_law_888 ?_
  obtain ⟨x3, e4, h⟩ := dtBind h
  refine dr_sload x3 dL_law_889 e4 ?_
  obtain ⟨_, hb5, h⟩ := dtBind h
  obtain ⟨x8, μ6, e7, h⟩ := dtCall h
  refine dr_callV_i (S0 := []) [.int x1, .int x3] x8 μ6 dL_law_890 (c_X11_open l1 x1 x3 μ e7) mf_X11_open wt_924 wt_925 wt_923 rfl (dtRv hb5) (by decide) rfl (Nat.le_of_ble_eq_true rfl) (Nat.le_of_ble_eq_true rfl) rfl ?_
  refine dr_aload_n l2 dL_law_893 rfl ?_
  refine dr_aload_n 1000000 dL_law_894 rfl ?_
  refine dr_iload_n l3 dL_law_895 rfl ?_
  refine dr_iconst (1 : Int32) dL_law_896 (by decide) ?_
  refine dr_iadd dL_law_897 ?_
  obtain ⟨x9, e10, h⟩ := dtBind h
  refine dr_sload x9 dL_law_898 e10 ?_
  refine dr_aload_n 1000000 dL_law_899 rfl ?_
  refine dr_iload_n l3 dL_law_900 rfl ?_
  refine dr_iconst (2 : Int32) dL_law_901 (by decide) ?_
  refine dr_iadd dL_law_902 ?_
  obtain ⟨x11, e12, h⟩ := dtBind h
  refine dr_sload x11 dL_law_903 e12 ?_
  obtain ⟨_, hb13, h⟩ := dtBind h
  obtain ⟨x16, μ14, e15, h⟩ := dtCall h
  refine dr_callV_i (S0 := [.int x8]) [.int x9, .int x11] x16 μ14 dL_law_904 (c_X12_open l2 x9 x11 μ6 e15) mf_X12_open wt_1818 wt_1819 wt_1817 rfl (dtRv hb13) (by decide) rfl (Nat.le_of_ble_eq_true rfl) (Nat.le_of_ble_eq_true rfl) rfl ?_
  obtain ⟨ht18, hf19⟩ := dtIte h
  refine dr_icmp_eq 2079 dL_law_907 (by decide) (fun hc17 => ?_) (fun hc17 => ?_)
  · have h := ht18 hc17
    exact c_L_law_2079 k18 hk18 l1 l2 l3 μ14 h
  · have h := hf19 hc17
    refine dr_iconst (0 : Int32) dL_law_910 (by decide) ?_
    obtain ⟨hz, rfl, rfl⟩ := dtRet h
    exact dr_ireturn dL_law_911 (dtNz hz)
set_option maxRecDepth 100000 in
theorem c_L_law_912 {r : Int32} {F : dtM} (k18 : Nat → Nat → Int32 → dtM → Option (Int32 × dtM)) (hk18 : ∀ (l1 : Nat) (l2 : Nat) (l3 : Int32) (μ : dtM), k18 l1 l2 l3 μ = some (r, F) → dtW yL_law cL_law 4 (some .boolean) 49 (some (.int r)) F 18 [some (.ref 1000000), some (.ref l1), some (.ref l2), some (.int l3)] [] μ) (l1 : Nat) (l2 : Nat) (l3 : Int32) (μ : dtM) (h : f_L_law_912 k18 l1 l2 l3 μ = some (r, F)) : dtW yL_law cL_law 4 (some .boolean) 49 (some (.int r)) F 912 [some (.ref 1000000), some (.ref l1), some (.ref l2), some (.int l3)] [] μ := by
  rw [f_L_law_912] at h
  refine dr_aload_n l1 dL_law_912 rfl ?_
  refine dr_aload_n 1000000 dL_law_913 rfl ?_
  refine dr_iload_n l3 dL_law_914 rfl ?_
  refine dr_iconst (1 : Int32) dL_law_915 (by decide) ?_
  refine dr_iadd dL_law_916 ?_
  obtain ⟨x1, e2, h⟩ := dtBind h
  refine dr_sload x1 dL_law_917 e2 ?_
  refine dr_aload_n 1000000 dL_law_918 rfl ?_
  refine dr_iload_n l3 dL_law_919 rfl ?_
  refine dr_iconst (2 : Int32) dL_law_920 (by decide) ?_
  refine dr_iadd dL_law_921 ?_
  obtain ⟨x3, e4, h⟩ := dtBind h
  refine dr_sload x3 dL_law_922 e4 ?_
  obtain ⟨_, hb5, h⟩ := dtBind h
  obtain ⟨x8, μ6, e7, h⟩ := dtCall h
  refine dr_callV_i (S0 := []) [.int x1, .int x3] x8 μ6 dL_law_923 (c_X11_go l1 x1 x3 μ e7) mf_X11_go wt_935 wt_936 wt_934 rfl (dtRv hb5) (by decide) rfl (Nat.le_of_ble_eq_true rfl) (Nat.le_of_ble_eq_true rfl) rfl ?_
  refine dr_aload_n l2 dL_law_926 rfl ?_
  refine dr_aload_n 1000000 dL_law_927 rfl ?_
  refine dr_iload_n l3 dL_law_928 rfl ?_
  refine dr_iconst (1 : Int32) dL_law_929 (by decide) ?_
  refine dr_iadd dL_law_930 ?_
  obtain ⟨x9, e10, h⟩ := dtBind h
  refine dr_sload x9 dL_law_931 e10 ?_
  refine dr_aload_n 1000000 dL_law_932 rfl ?_
  refine dr_iload_n l3 dL_law_933 rfl ?_
  refine dr_iconst (2 : Int32) dL_law_934 (by decide) ?_
  refine dr_iadd dL_law_935 ?_
  obtain ⟨x11, e12, h⟩ := dtBind h
  refine dr_sload x11 dL_law_936 e12 ?_
  obtain ⟨_, hb13, h⟩ := dtBind h
  obtain ⟨x16, μ14, e15, h⟩ := dtCall h
  refine dr_callV_i (S0 := [.int x8]) [.int x9, .int x11] x16 μ14 dL_law_937 (c_X12_go l2 x9 x11 μ6 e15) mf_X12_go wt_1829 wt_1830 wt_1828 rfl (dtRv hb13) (by decide) rfl (Nat.le_of_ble_eq_true rfl) (Nat.le_of_ble_eq_true rfl) rfl ?_
  obtain ⟨ht18, hf19⟩ := dtIte h
  refine dr_icmp_eq 2079 dL_law_940 (by decide) (fun hc17 => ?_) (fun hc17 => ?_)
  · have h := ht18 hc17
    exact c_L_law_2079 k18 hk18 l1 l2 l3 μ14 h
  · have h := hf19 hc17
    refine dr_iconst (0 : Int32) dL_law_943 (by decide) ?_
    obtain ⟨hz, rfl, rfl⟩ := dtRet h
    exact dr_ireturn dL_law_944 (dtNz hz)
set_option maxRecDepth 100000 in
theorem c_L_law_945 {r : Int32} {F : dtM} (k18 : Nat → Nat → Int32 → dtM → Option (Int32 × dtM)) (hk18 : ∀ (l1 : Nat) (l2 : Nat) (l3 : Int32) (μ : dtM), k18 l1 l2 l3 μ = some (r, F) → dtW yL_law cL_law 4 (some .boolean) 49 (some (.int r)) F 18 [some (.ref 1000000), some (.ref l1), some (.ref l2), some (.int l3)] [] μ) (l1 : Nat) (l2 : Nat) (l3 : Int32) (μ : dtM) (h : f_L_law_945 k18 l1 l2 l3 μ = some (r, F)) : dtW yL_law cL_law 4 (some .boolean) 49 (some (.int r)) F 945 [some (.ref 1000000), some (.ref l1), some (.ref l2), some (.int l3)] [] μ := by
  rw [f_L_law_945] at h
  refine dr_aload_n l1 dL_law_945 rfl ?_
  refine dr_aload_n 1000000 dL_law_946 rfl ?_
  refine dr_iload_n l3 dL_law_947 rfl ?_
  refine dr_iconst (1 : Int32) dL_law_948 (by decide) ?_
  refine dr_iadd dL_law_949 ?_
  obtain ⟨x1, e2, h⟩ := dtBind h
  refine dr_sload x1 dL_law_950 e2 ?_
  obtain ⟨_, hb3, h⟩ := dtBind h
  obtain ⟨x6, μ4, e5, h⟩ := dtCall h
  refine dr_callV_i (S0 := []) [.int x1] x6 μ4 dL_law_951 (c_X11_forget l1 x1 μ e5) mf_X11_forget wt_943 wt_944 wt_942 rfl (dtRv hb3) (by decide) rfl (Nat.le_of_ble_eq_true rfl) (Nat.le_of_ble_eq_true rfl) rfl ?_
  refine dr_aload_n l2 dL_law_954 rfl ?_
  refine dr_aload_n 1000000 dL_law_955 rfl ?_
  refine dr_iload_n l3 dL_law_956 rfl ?_
  refine dr_iconst (1 : Int32) dL_law_957 (by decide) ?_
  refine dr_iadd dL_law_958 ?_
  obtain ⟨x7, e8, h⟩ := dtBind h
  refine dr_sload x7 dL_law_959 e8 ?_
  obtain ⟨_, hb9, h⟩ := dtBind h
  obtain ⟨x12, μ10, e11, h⟩ := dtCall h
  refine dr_callV_i (S0 := [.int x6]) [.int x7] x12 μ10 dL_law_960 (c_X12_forget l2 x7 μ4 e11) mf_X12_forget wt_1837 wt_1838 wt_1836 rfl (dtRv hb9) (by decide) rfl (Nat.le_of_ble_eq_true rfl) (Nat.le_of_ble_eq_true rfl) rfl ?_
  obtain ⟨ht14, hf15⟩ := dtIte h
  refine dr_icmp_eq 2079 dL_law_963 (by decide) (fun hc13 => ?_) (fun hc13 => ?_)
  · have h := ht14 hc13
    exact c_L_law_2079 k18 hk18 l1 l2 l3 μ10 h
  · have h := hf15 hc13
    refine dr_iconst (0 : Int32) dL_law_966 (by decide) ?_
    obtain ⟨hz, rfl, rfl⟩ := dtRet h
    exact dr_ireturn dL_law_967 (dtNz hz)
set_option maxRecDepth 100000 in
theorem c_L_law_1019 {r : Int32} {F : dtM} (k18 : Nat → Nat → Int32 → dtM → Option (Int32 × dtM)) (hk18 : ∀ (l1 : Nat) (l2 : Nat) (l3 : Int32) (μ : dtM), k18 l1 l2 l3 μ = some (r, F) → dtW yL_law cL_law 4 (some .boolean) 49 (some (.int r)) F 18 [some (.ref 1000000), some (.ref l1), some (.ref l2), some (.int l3)] [] μ) (l1 : Nat) (l2 : Nat) (l3 : Int32) (s0 : Int32) (s1 : Nat) (s2 : Int32) (s3 : Int32) (s4 : Int32) (μ : dtM) (h : f_L_law_1019 k18 l1 l2 l3 s0 s1 s2 s3 s4 μ = some (r, F)) : dtW yL_law cL_law 4 (some .boolean) 49 (some (.int r)) F 1019 [some (.ref 1000000), some (.ref l1), some (.ref l2), some (.int l3)] [.int s4, .int s3, .int s2, .ref s1, .int s0] μ := by
  rw [f_L_law_1019] at h
  obtain ⟨_, hb1, h⟩ := dtBind h
  obtain ⟨x4, μ2, e3, h⟩ := dtCall h
  refine dr_callV_i (S0 := [.int s0]) [.int s2, .int s3, .int s4] x4 μ2 dL_law_1019 (c_X12_teach s1 s2 s3 s4 μ e3) mf_X12_teach wt_1845 wt_1846 wt_1844 rfl (dtRv hb1) (by decide) rfl (Nat.le_of_ble_eq_true rfl) (Nat.le_of_ble_eq_true rfl) rfl ?_
  obtain ⟨ht6, hf7⟩ := dtIte h
  refine dr_icmp_eq 2079 dL_law_1022 (by decide) (fun hc5 => ?_) (fun hc5 => ?_)
  · have h := ht6 hc5
    exact c_L_law_2079 k18 hk18 l1 l2 l3 μ2 h
  · have h := hf7 hc5
    refine dr_iconst (0 : Int32) dL_law_1025 (by decide) ?_
    obtain ⟨hz, rfl, rfl⟩ := dtRet h
    exact dr_ireturn dL_law_1026 (dtNz hz)
set_option maxRecDepth 100000 in
theorem c_L_law_992 {r : Int32} {F : dtM} (k18 : Nat → Nat → Int32 → dtM → Option (Int32 × dtM)) (hk18 : ∀ (l1 : Nat) (l2 : Nat) (l3 : Int32) (μ : dtM), k18 l1 l2 l3 μ = some (r, F) → dtW yL_law cL_law 4 (some .boolean) 49 (some (.int r)) F 18 [some (.ref 1000000), some (.ref l1), some (.ref l2), some (.int l3)] [] μ) (l1 : Nat) (l2 : Nat) (l3 : Int32) (s0 : Nat) (s1 : Int32) (s2 : Int32) (s3 : Int32) (μ : dtM) (h : f_L_law_992 k18 l1 l2 l3 s0 s1 s2 s3 μ = some (r, F)) : dtW yL_law cL_law 4 (some .boolean) 49 (some (.int r)) F 992 [some (.ref 1000000), some (.ref l1), some (.ref l2), some (.int l3)] [.int s3, .int s2, .int s1, .ref s0] μ := by
  rw [f_L_law_992] at h
  obtain ⟨_, hb1, h⟩ := dtBind h
  obtain ⟨x4, μ2, e3, h⟩ := dtCall h
  refine dr_callV_i (S0 := []) [.int s1, .int s2, .int s3] x4 μ2 dL_law_992 (c_X11_teach s0 s1 s2 s3 μ e3) mf_X11_teach wt_947 wt_948 wt_946 rfl (dtRv hb1) (by decide) rfl (Nat.le_of_ble_eq_true rfl) (Nat.le_of_ble_eq_true rfl) rfl ?_
  refine dr_aload_n l2 dL_law_995 rfl ?_
  refine dr_aload_n 1000000 dL_law_996 rfl ?_
  refine dr_iload_n l3 dL_law_997 rfl ?_
  refine dr_iconst (1 : Int32) dL_law_998 (by decide) ?_
  refine dr_iadd dL_law_999 ?_
  obtain ⟨x5, e6, h⟩ := dtBind h
  refine dr_sload x5 dL_law_1000 e6 ?_
  refine dr_aload_n 1000000 dL_law_1001 rfl ?_
  refine dr_iload_n l3 dL_law_1002 rfl ?_
  refine dr_iconst (2 : Int32) dL_law_1003 (by decide) ?_
  refine dr_iadd dL_law_1004 ?_
  obtain ⟨x7, e8, h⟩ := dtBind h
  refine dr_sload x7 dL_law_1005 e8 ?_
  refine dr_aload_n 1000000 dL_law_1006 rfl ?_
  refine dr_iload_n l3 dL_law_1007 rfl ?_
  refine dr_iconst (3 : Int32) dL_law_1008 (by decide) ?_
  refine dr_iadd dL_law_1009 ?_
  obtain ⟨x9, e10, h⟩ := dtBind h
  refine dr_sload x9 dL_law_1010 e10 ?_
  obtain ⟨ht12, hf13⟩ := dtIte h
  refine dr_if_eq 1018 dL_law_1011 (by decide) (fun hc11 => ?_) (fun hc11 => ?_)
  · have h := ht12 hc11
    refine dr_iconst (0 : Int32) dL_law_1018 (by decide) ?_
    exact c_L_law_1019 k18 hk18 l1 l2 l3 x4 l2 x5 x7 (0 : Int32) μ2 h
  · have h := hf13 hc11
    refine dr_iconst (1 : Int32) dL_law_1014 (by decide) ?_
    refine dr_goto 1019 dL_law_1015 (by decide) ?_
    exact c_L_law_1019 k18 hk18 l1 l2 l3 x4 l2 x5 x7 (1 : Int32) μ2 h
set_option maxRecDepth 100000 in
theorem c_L_law_968 {r : Int32} {F : dtM} (k18 : Nat → Nat → Int32 → dtM → Option (Int32 × dtM)) (hk18 : ∀ (l1 : Nat) (l2 : Nat) (l3 : Int32) (μ : dtM), k18 l1 l2 l3 μ = some (r, F) → dtW yL_law cL_law 4 (some .boolean) 49 (some (.int r)) F 18 [some (.ref 1000000), some (.ref l1), some (.ref l2), some (.int l3)] [] μ) (l1 : Nat) (l2 : Nat) (l3 : Int32) (μ : dtM) (h : f_L_law_968 k18 l1 l2 l3 μ = some (r, F)) : dtW yL_law cL_law 4 (some .boolean) 49 (some (.int r)) F 968 [some (.ref 1000000), some (.ref l1), some (.ref l2), some (.int l3)] [] μ := by
  rw [f_L_law_968] at h
  refine dr_aload_n l1 dL_law_968 rfl ?_
  refine dr_aload_n 1000000 dL_law_969 rfl ?_
  refine dr_iload_n l3 dL_law_970 rfl ?_
  refine dr_iconst (1 : Int32) dL_law_971 (by decide) ?_
  refine dr_iadd dL_law_972 ?_
  obtain ⟨x1, e2, h⟩ := dtBind h
  refine dr_sload x1 dL_law_973 e2 ?_
  refine dr_aload_n 1000000 dL_law_974 rfl ?_
  refine dr_iload_n l3 dL_law_975 rfl ?_
  refine dr_iconst (2 : Int32) dL_law_976 (by decide) ?_
  refine dr_iadd dL_law_977 ?_
  obtain ⟨x3, e4, h⟩ := dtBind h
  refine dr_sload x3 dL_law_978 e4 ?_
  refine dr_aload_n 1000000 dL_law_979 rfl ?_
  refine dr_iload_n l3 dL_law_980 rfl ?_
  refine dr_iconst (3 : Int32) dL_law_981 (by decide) ?_
  refine dr_iadd dL_law_982 ?_
  obtain ⟨x5, e6, h⟩ := dtBind h
  refine dr_sload x5 dL_law_983 e6 ?_
  obtain ⟨ht8, hf9⟩ := dtIte h
  refine dr_if_eq 991 dL_law_984 (by decide) (fun hc7 => ?_) (fun hc7 => ?_)
  · have h := ht8 hc7
    refine dr_iconst (0 : Int32) dL_law_991 (by decide) ?_
    exact c_L_law_992 k18 hk18 l1 l2 l3 l1 x1 x3 (0 : Int32) μ h
  · have h := hf9 hc7
    refine dr_iconst (1 : Int32) dL_law_987 (by decide) ?_
    refine dr_goto 992 dL_law_988 (by decide) ?_
    exact c_L_law_992 k18 hk18 l1 l2 l3 l1 x1 x3 (1 : Int32) μ h
set_option maxRecDepth 100000 in
theorem c_L_law_1027 {r : Int32} {F : dtM} (k18 : Nat → Nat → Int32 → dtM → Option (Int32 × dtM)) (hk18 : ∀ (l1 : Nat) (l2 : Nat) (l3 : Int32) (μ : dtM), k18 l1 l2 l3 μ = some (r, F) → dtW yL_law cL_law 4 (some .boolean) 49 (some (.int r)) F 18 [some (.ref 1000000), some (.ref l1), some (.ref l2), some (.int l3)] [] μ) (l1 : Nat) (l2 : Nat) (l3 : Int32) (μ : dtM) (h : f_L_law_1027 k18 l1 l2 l3 μ = some (r, F)) : dtW yL_law cL_law 4 (some .boolean) 49 (some (.int r)) F 1027 [some (.ref 1000000), some (.ref l1), some (.ref l2), some (.int l3)] [] μ := by
  rw [f_L_law_1027] at h
  refine dr_aload_n l1 dL_law_1027 rfl ?_
  refine dr_aload_n 1000000 dL_law_1028 rfl ?_
  refine dr_iload_n l3 dL_law_1029 rfl ?_
  refine dr_iconst (1 : Int32) dL_law_1030 (by decide) ?_
  refine dr_iadd dL_law_1031 ?_
  obtain ⟨x1, e2, h⟩ := dtBind h
  refine dr_sload x1 dL_law_1032 e2 ?_
  refine dr_aload_n 1000000 dL_law_1033 rfl ?_
  refine dr_iload_n l3 dL_law_1034 rfl ?_
  refine dr_iconst (2 : Int32) dL_law_1035 (by decide) ?_
  refine dr_iadd dL_law_1036 ?_
  obtain ⟨x3, e4, h⟩ := dtBind h
  refine dr_sload x3 dL_law_1037 e4 ?_
  obtain ⟨_, hb5, h⟩ := dtBind h
  obtain ⟨x8, μ6, e7, h⟩ := dtCall h
  refine dr_callV_i (S0 := []) [.int x1, .int x3] x8 μ6 dL_law_1038 (c_X11_coin l1 x1 x3 μ e7) mf_X11_coin wt_952 wt_953 wt_951 rfl (dtRv hb5) (by decide) rfl (Nat.le_of_ble_eq_true rfl) (Nat.le_of_ble_eq_true rfl) rfl ?_
  refine dr_aload_n l2 dL_law_1041 rfl ?_
  refine dr_aload_n 1000000 dL_law_1042 rfl ?_
  refine dr_iload_n l3 dL_law_1043 rfl ?_
  refine dr_iconst (1 : Int32) dL_law_1044 (by decide) ?_
  refine dr_iadd dL_law_1045 ?_
  obtain ⟨x9, e10, h⟩ := dtBind h
  refine dr_sload x9 dL_law_1046 e10 ?_
  refine dr_aload_n 1000000 dL_law_1047 rfl ?_
  refine dr_iload_n l3 dL_law_1048 rfl ?_
  refine dr_iconst (2 : Int32) dL_law_1049 (by decide) ?_
  refine dr_iadd dL_law_1050 ?_
  obtain ⟨x11, e12, h⟩ := dtBind h
  refine dr_sload x11 dL_law_1051 e12 ?_
  obtain ⟨_, hb13, h⟩ := dtBind h
  obtain ⟨x16, μ14, e15, h⟩ := dtCall h
  refine dr_callV_i (S0 := [.int x8]) [.int x9, .int x11] x16 μ14 dL_law_1052 (c_X12_coin l2 x9 x11 μ6 e15) mf_X12_coin wt_1849 wt_1850 wt_1848 rfl (dtRv hb13) (by decide) rfl (Nat.le_of_ble_eq_true rfl) (Nat.le_of_ble_eq_true rfl) rfl ?_
  obtain ⟨ht18, hf19⟩ := dtIte h
  refine dr_icmp_eq 2079 dL_law_1055 (by decide) (fun hc17 => ?_) (fun hc17 => ?_)
  · have h := ht18 hc17
    exact c_L_law_2079 k18 hk18 l1 l2 l3 μ14 h
  · have h := hf19 hc17
    refine dr_iconst (0 : Int32) dL_law_1058 (by decide) ?_
    obtain ⟨hz, rfl, rfl⟩ := dtRet h
    exact dr_ireturn dL_law_1059 (dtNz hz)
set_option maxRecDepth 100000 in
theorem c_L_law_1060 {r : Int32} {F : dtM} (k18 : Nat → Nat → Int32 → dtM → Option (Int32 × dtM)) (hk18 : ∀ (l1 : Nat) (l2 : Nat) (l3 : Int32) (μ : dtM), k18 l1 l2 l3 μ = some (r, F) → dtW yL_law cL_law 4 (some .boolean) 49 (some (.int r)) F 18 [some (.ref 1000000), some (.ref l1), some (.ref l2), some (.int l3)] [] μ) (l1 : Nat) (l2 : Nat) (l3 : Int32) (μ : dtM) (h : f_L_law_1060 k18 l1 l2 l3 μ = some (r, F)) : dtW yL_law cL_law 4 (some .boolean) 49 (some (.int r)) F 1060 [some (.ref 1000000), some (.ref l1), some (.ref l2), some (.int l3)] [] μ := by
  rw [f_L_law_1060] at h
  refine dr_aload_n l1 dL_law_1060 rfl ?_
  refine dr_aload_n 1000000 dL_law_1061 rfl ?_
  refine dr_iload_n l3 dL_law_1062 rfl ?_
  refine dr_iconst (1 : Int32) dL_law_1063 (by decide) ?_
  refine dr_iadd dL_law_1064 ?_
  obtain ⟨x1, e2, h⟩ := dtBind h
  refine dr_sload x1 dL_law_1065 e2 ?_
  obtain ⟨_, hb3, h⟩ := dtBind h
  obtain ⟨x6, μ4, e5, h⟩ := dtCall h
  refine dr_callV_i (S0 := []) [.int x1] x6 μ4 dL_law_1066 (c_X11_come l1 x1 μ e5) mf_X11_come wt_971 wt_972 wt_970 rfl (dtRv hb3) (by decide) rfl (Nat.le_of_ble_eq_true rfl) (Nat.le_of_ble_eq_true rfl) rfl ?_
  refine dr_aload_n l2 dL_law_1069 rfl ?_
  refine dr_aload_n 1000000 dL_law_1070 rfl ?_
  refine dr_iload_n l3 dL_law_1071 rfl ?_
  refine dr_iconst (1 : Int32) dL_law_1072 (by decide) ?_
  refine dr_iadd dL_law_1073 ?_
  obtain ⟨x7, e8, h⟩ := dtBind h
  refine dr_sload x7 dL_law_1074 e8 ?_
  obtain ⟨_, hb9, h⟩ := dtBind h
  obtain ⟨x12, μ10, e11, h⟩ := dtCall h
  refine dr_callV_i (S0 := [.int x6]) [.int x7] x12 μ10 dL_law_1075 (c_X12_come l2 x7 μ4 e11) mf_X12_come wt_1858 wt_1859 wt_1857 rfl (dtRv hb9) (by decide) rfl (Nat.le_of_ble_eq_true rfl) (Nat.le_of_ble_eq_true rfl) rfl ?_
  obtain ⟨ht14, hf15⟩ := dtIte h
  refine dr_icmp_eq 2079 dL_law_1078 (by decide) (fun hc13 => ?_) (fun hc13 => ?_)
  · have h := ht14 hc13
    exact c_L_law_2079 k18 hk18 l1 l2 l3 μ10 h
  · have h := hf15 hc13
    refine dr_iconst (0 : Int32) dL_law_1081 (by decide) ?_
    obtain ⟨hz, rfl, rfl⟩ := dtRet h
    exact dr_ireturn dL_law_1082 (dtNz hz)
set_option maxRecDepth 100000 in
theorem c_L_law_1083 {r : Int32} {F : dtM} (k18 : Nat → Nat → Int32 → dtM → Option (Int32 × dtM)) (hk18 : ∀ (l1 : Nat) (l2 : Nat) (l3 : Int32) (μ : dtM), k18 l1 l2 l3 μ = some (r, F) → dtW yL_law cL_law 4 (some .boolean) 49 (some (.int r)) F 18 [some (.ref 1000000), some (.ref l1), some (.ref l2), some (.int l3)] [] μ) (l1 : Nat) (l2 : Nat) (l3 : Int32) (μ : dtM) (h : f_L_law_1083 k18 l1 l2 l3 μ = some (r, F)) : dtW yL_law cL_law 4 (some .boolean) 49 (some (.int r)) F 1083 [some (.ref 1000000), some (.ref l1), some (.ref l2), some (.int l3)] [] μ := by
  rw [f_L_law_1083] at h
  refine dr_aload_n l1 dL_law_1083 rfl ?_
  refine dr_aload_n 1000000 dL_law_1084 rfl ?_
  refine dr_iload_n l3 dL_law_1085 rfl ?_
  refine dr_iconst (1 : Int32) dL_law_1086 (by decide) ?_
  refine dr_iadd dL_law_1087 ?_
  obtain ⟨x1, e2, h⟩ := dtBind h
  refine dr_sload x1 dL_law_1088 e2 ?_
  refine dr_aload_n 1000000 dL_law_1089 rfl ?_
  refine dr_iload_n l3 dL_law_1090 rfl ?_
  refine dr_iconst (2 : Int32) dL_law_1091 (by decide) ?_
  refine dr_iadd dL_law_1092 ?_
  obtain ⟨x3, e4, h⟩ := dtBind h
  refine dr_sload x3 dL_law_1093 e4 ?_
  obtain ⟨_, hb5, h⟩ := dtBind h
  obtain ⟨x8, μ6, e7, h⟩ := dtCall h
  refine dr_callV_i (S0 := []) [.int x1, .int x3] x8 μ6 dL_law_1094 (c_X11_line l1 x1 x3 μ e7) mf_X11_line wt_980 wt_981 wt_979 rfl (dtRv hb5) (by decide) rfl (Nat.le_of_ble_eq_true rfl) (Nat.le_of_ble_eq_true rfl) rfl ?_
  refine dr_aload_n l2 dL_law_1097 rfl ?_
  refine dr_aload_n 1000000 dL_law_1098 rfl ?_
  refine dr_iload_n l3 dL_law_1099 rfl ?_
  refine dr_iconst (1 : Int32) dL_law_1100 (by decide) ?_
  refine dr_iadd dL_law_1101 ?_
  obtain ⟨x9, e10, h⟩ := dtBind h
  refine dr_sload x9 dL_law_1102 e10 ?_
  refine dr_aload_n 1000000 dL_law_1103 rfl ?_
  refine dr_iload_n l3 dL_law_1104 rfl ?_
  refine dr_iconst (2 : Int32) dL_law_1105 (by decide) ?_
  refine dr_iadd dL_law_1106 ?_
  obtain ⟨x11, e12, h⟩ := dtBind h
  refine dr_sload x11 dL_law_1107 e12 ?_
  obtain ⟨_, hb13, h⟩ := dtBind h
  obtain ⟨x16, μ14, e15, h⟩ := dtCall h
  refine dr_callV_i (S0 := [.int x8]) [.int x9, .int x11] x16 μ14 dL_law_1108 (c_X12_line l2 x9 x11 μ6 e15) mf_X12_line wt_1862 wt_1863 wt_1861 rfl (dtRv hb13) (by decide) rfl (Nat.le_of_ble_eq_true rfl) (Nat.le_of_ble_eq_true rfl) rfl ?_
  obtain ⟨ht18, hf19⟩ := dtIte h
  refine dr_icmp_eq 2079 dL_law_1111 (by decide) (fun hc17 => ?_) (fun hc17 => ?_)
  · have h := ht18 hc17
    exact c_L_law_2079 k18 hk18 l1 l2 l3 μ14 h
  · have h := hf19 hc17
    refine dr_iconst (0 : Int32) dL_law_1114 (by decide) ?_
    obtain ⟨hz, rfl, rfl⟩ := dtRet h
    exact dr_ireturn dL_law_1115 (dtNz hz)
set_option maxRecDepth 100000 in
theorem c_L_law_1116 {r : Int32} {F : dtM} (k18 : Nat → Nat → Int32 → dtM → Option (Int32 × dtM)) (hk18 : ∀ (l1 : Nat) (l2 : Nat) (l3 : Int32) (μ : dtM), k18 l1 l2 l3 μ = some (r, F) → dtW yL_law cL_law 4 (some .boolean) 49 (some (.int r)) F 18 [some (.ref 1000000), some (.ref l1), some (.ref l2), some (.int l3)] [] μ) (l1 : Nat) (l2 : Nat) (l3 : Int32) (μ : dtM) (h : f_L_law_1116 k18 l1 l2 l3 μ = some (r, F)) : dtW yL_law cL_law 4 (some .boolean) 49 (some (.int r)) F 1116 [some (.ref 1000000), some (.ref l1), some (.ref l2), some (.int l3)] [] μ := by
  rw [f_L_law_1116] at h
  refine dr_aload_n l1 dL_law_1116 rfl ?_
  refine dr_aload_n 1000000 dL_law_1117 rfl ?_
  refine dr_iload_n l3 dL_law_1118 rfl ?_
  refine dr_iconst (1 : Int32) dL_law_1119 (by decide) ?_
  refine dr_iadd dL_law_1120 ?_
  obtain ⟨x1, e2, h⟩ := dtBind h
  refine dr_sload x1 dL_law_1121 e2 ?_
  refine dr_aload_n 1000000 dL_law_1122 rfl ?_
  refine dr_iload_n l3 dL_law_1123 rfl ?_
  refine dr_iconst (2 : Int32) dL_law_1124 (by decide) ?_
  refine dr_iadd dL_law_1125 ?_
  obtain ⟨x3, e4, h⟩ := dtBind h
  refine dr_sload x3 dL_law_1126 e4 ?_
  obtain ⟨_, hb5, h⟩ := dtBind h
  obtain ⟨x8, μ6, e7, h⟩ := dtCall h
  refine dr_callV_i (S0 := []) [.int x1, .int x3] x8 μ6 dL_law_1127 (c_X11_deafen l1 x1 x3 μ e7) mf_X11_deafen wt_984 wt_985 wt_983 rfl (dtRv hb5) (by decide) rfl (Nat.le_of_ble_eq_true rfl) (Nat.le_of_ble_eq_true rfl) rfl ?_
  refine dr_aload_n l2 dL_law_1130 rfl ?_
  refine dr_aload_n 1000000 dL_law_1131 rfl ?_
  refine dr_iload_n l3 dL_law_1132 rfl ?_
  refine dr_iconst (1 : Int32) dL_law_1133 (by decide) ?_
  refine dr_iadd dL_law_1134 ?_
  obtain ⟨x9, e10, h⟩ := dtBind h
  refine dr_sload x9 dL_law_1135 e10 ?_
  refine dr_aload_n 1000000 dL_law_1136 rfl ?_
  refine dr_iload_n l3 dL_law_1137 rfl ?_
  refine dr_iconst (2 : Int32) dL_law_1138 (by decide) ?_
  refine dr_iadd dL_law_1139 ?_
  obtain ⟨x11, e12, h⟩ := dtBind h
  refine dr_sload x11 dL_law_1140 e12 ?_
  obtain ⟨_, hb13, h⟩ := dtBind h
  obtain ⟨x16, μ14, e15, h⟩ := dtCall h
  refine dr_callV_i (S0 := [.int x8]) [.int x9, .int x11] x16 μ14 dL_law_1141 (c_X12_deafen l2 x9 x11 μ6 e15) mf_X12_deafen wt_1867 wt_1868 wt_1866 rfl (dtRv hb13) (by decide) rfl (Nat.le_of_ble_eq_true rfl) (Nat.le_of_ble_eq_true rfl) rfl ?_
  obtain ⟨ht18, hf19⟩ := dtIte h
  refine dr_icmp_eq 2079 dL_law_1144 (by decide) (fun hc17 => ?_) (fun hc17 => ?_)
  · have h := ht18 hc17
    exact c_L_law_2079 k18 hk18 l1 l2 l3 μ14 h
  · have h := hf19 hc17
    refine dr_iconst (0 : Int32) dL_law_1147 (by decide) ?_
    obtain ⟨hz, rfl, rfl⟩ := dtRet h
    exact dr_ireturn dL_law_1148 (dtNz hz)
set_option maxRecDepth 100000 in
theorem c_L_law_1149 {r : Int32} {F : dtM} (k18 : Nat → Nat → Int32 → dtM → Option (Int32 × dtM)) (hk18 : ∀ (l1 : Nat) (l2 : Nat) (l3 : Int32) (μ : dtM), k18 l1 l2 l3 μ = some (r, F) → dtW yL_law cL_law 4 (some .boolean) 49 (some (.int r)) F 18 [some (.ref 1000000), some (.ref l1), some (.ref l2), some (.int l3)] [] μ) (l1 : Nat) (l2 : Nat) (l3 : Int32) (μ : dtM) (h : f_L_law_1149 k18 l1 l2 l3 μ = some (r, F)) : dtW yL_law cL_law 4 (some .boolean) 49 (some (.int r)) F 1149 [some (.ref 1000000), some (.ref l1), some (.ref l2), some (.int l3)] [] μ := by
  rw [f_L_law_1149] at h
  refine dr_aload_n l1 dL_law_1149 rfl ?_
  refine dr_aload_n 1000000 dL_law_1150 rfl ?_
  refine dr_iload_n l3 dL_law_1151 rfl ?_
  refine dr_iconst (1 : Int32) dL_law_1152 (by decide) ?_
  refine dr_iadd dL_law_1153 ?_
  obtain ⟨x1, e2, h⟩ := dtBind h
  refine dr_sload x1 dL_law_1154 e2 ?_
  obtain ⟨_, hb3, h⟩ := dtBind h
  obtain ⟨x6, μ4, e5, h⟩ := dtCall h
  refine dr_callV_i (S0 := []) [.int x1] x6 μ4 dL_law_1155 (c_X11_rule l1 x1 μ e5) mf_X11_rule wt_988 wt_989 wt_987 rfl (dtRv hb3) (by decide) rfl (Nat.le_of_ble_eq_true rfl) (Nat.le_of_ble_eq_true rfl) rfl ?_
  refine dr_aload_n l2 dL_law_1158 rfl ?_
  refine dr_aload_n 1000000 dL_law_1159 rfl ?_
  refine dr_iload_n l3 dL_law_1160 rfl ?_
  refine dr_iconst (1 : Int32) dL_law_1161 (by decide) ?_
  refine dr_iadd dL_law_1162 ?_
  obtain ⟨x7, e8, h⟩ := dtBind h
  refine dr_sload x7 dL_law_1163 e8 ?_
  obtain ⟨_, hb9, h⟩ := dtBind h
  obtain ⟨x12, μ10, e11, h⟩ := dtCall h
  refine dr_callV_i (S0 := [.int x6]) [.int x7] x12 μ10 dL_law_1164 (c_X12_rule l2 x7 μ4 e11) mf_X12_rule wt_1871 wt_1872 wt_1870 rfl (dtRv hb9) (by decide) rfl (Nat.le_of_ble_eq_true rfl) (Nat.le_of_ble_eq_true rfl) rfl ?_
  obtain ⟨ht14, hf15⟩ := dtIte h
  refine dr_icmp_eq 2079 dL_law_1167 (by decide) (fun hc13 => ?_) (fun hc13 => ?_)
  · have h := ht14 hc13
    exact c_L_law_2079 k18 hk18 l1 l2 l3 μ10 h
  · have h := hf15 hc13
    refine dr_iconst (0 : Int32) dL_law_1170 (by decide) ?_
    obtain ⟨hz, rfl, rfl⟩ := dtRet h
    exact dr_ireturn dL_law_1171 (dtNz hz)
set_option maxRecDepth 100000 in
theorem c_L_law_1172 {r : Int32} {F : dtM} (k18 : Nat → Nat → Int32 → dtM → Option (Int32 × dtM)) (hk18 : ∀ (l1 : Nat) (l2 : Nat) (l3 : Int32) (μ : dtM), k18 l1 l2 l3 μ = some (r, F) → dtW yL_law cL_law 4 (some .boolean) 49 (some (.int r)) F 18 [some (.ref 1000000), some (.ref l1), some (.ref l2), some (.int l3)] [] μ) (l1 : Nat) (l2 : Nat) (l3 : Int32) (μ : dtM) (h : f_L_law_1172 k18 l1 l2 l3 μ = some (r, F)) : dtW yL_law cL_law 4 (some .boolean) 49 (some (.int r)) F 1172 [some (.ref 1000000), some (.ref l1), some (.ref l2), some (.int l3)] [] μ := by
  rw [f_L_law_1172] at h
  refine dr_aload_n l1 dL_law_1172 rfl ?_
  refine dr_aload_n 1000000 dL_law_1173 rfl ?_
  refine dr_iload_n l3 dL_law_1174 rfl ?_
  refine dr_iconst (1 : Int32) dL_law_1175 (by decide) ?_
  refine dr_iadd dL_law_1176 ?_
  obtain ⟨x1, e2, h⟩ := dtBind h
  refine dr_sload x1 dL_law_1177 e2 ?_
  refine dr_aload_n 1000000 dL_law_1178 rfl ?_
  refine dr_iload_n l3 dL_law_1179 rfl ?_
  refine dr_iconst (2 : Int32) dL_law_1180 (by decide) ?_
  refine dr_iadd dL_law_1181 ?_
  obtain ⟨x3, e4, h⟩ := dtBind h
  refine dr_sload x3 dL_law_1182 e4 ?_
  obtain ⟨_, hb5, h⟩ := dtBind h
  obtain ⟨x8, μ6, e7, h⟩ := dtCall h
  refine dr_callV_i (S0 := []) [.int x1, .int x3] x8 μ6 dL_law_1183 (c_X11_loss l1 x1 x3 μ e7) mf_X11_loss wt_992 wt_993 wt_991 rfl (dtRv hb5) (by decide) rfl (Nat.le_of_ble_eq_true rfl) (Nat.le_of_ble_eq_true rfl) rfl ?_
  refine dr_aload_n l2 dL_law_1186 rfl ?_
  refine dr_aload_n 1000000 dL_law_1187 rfl ?_
  refine dr_iload_n l3 dL_law_1188 rfl ?_
  refine dr_iconst (1 : Int32) dL_law_1189 (by decide) ?_
  refine dr_iadd dL_law_1190 ?_
  obtain ⟨x9, e10, h⟩ := dtBind h
  refine dr_sload x9 dL_law_1191 e10 ?_
  refine dr_aload_n 1000000 dL_law_1192 rfl ?_
  refine dr_iload_n l3 dL_law_1193 rfl ?_
  refine dr_iconst (2 : Int32) dL_law_1194 (by decide) ?_
  refine dr_iadd dL_law_1195 ?_
  obtain ⟨x11, e12, h⟩ := dtBind h
  refine dr_sload x11 dL_law_1196 e12 ?_
  obtain ⟨_, hb13, h⟩ := dtBind h
  obtain ⟨x16, μ14, e15, h⟩ := dtCall h
  refine dr_callV_i (S0 := [.int x8]) [.int x9, .int x11] x16 μ14 dL_law_1197 (c_X12_loss l2 x9 x11 μ6 e15) mf_X12_loss wt_1743 wt_1744 wt_1742 rfl (dtRv hb13) (by decide) rfl (Nat.le_of_ble_eq_true rfl) (Nat.le_of_ble_eq_true rfl) rfl ?_
  obtain ⟨ht18, hf19⟩ := dtIte h
  refine dr_icmp_eq 2079 dL_law_1200 (by decide) (fun hc17 => ?_) (fun hc17 => ?_)
  · have h := ht18 hc17
    exact c_L_law_2079 k18 hk18 l1 l2 l3 μ14 h
  · have h := hf19 hc17
    refine dr_iconst (0 : Int32) dL_law_1203 (by decide) ?_
    obtain ⟨hz, rfl, rfl⟩ := dtRet h
    exact dr_ireturn dL_law_1204 (dtNz hz)
set_option maxRecDepth 100000 in
theorem c_L_law_1205 {r : Int32} {F : dtM} (k18 : Nat → Nat → Int32 → dtM → Option (Int32 × dtM)) (hk18 : ∀ (l1 : Nat) (l2 : Nat) (l3 : Int32) (μ : dtM), k18 l1 l2 l3 μ = some (r, F) → dtW yL_law cL_law 4 (some .boolean) 49 (some (.int r)) F 18 [some (.ref 1000000), some (.ref l1), some (.ref l2), some (.int l3)] [] μ) (l1 : Nat) (l2 : Nat) (l3 : Int32) (μ : dtM) (h : f_L_law_1205 k18 l1 l2 l3 μ = some (r, F)) : dtW yL_law cL_law 4 (some .boolean) 49 (some (.int r)) F 1205 [some (.ref 1000000), some (.ref l1), some (.ref l2), some (.int l3)] [] μ := by
  rw [f_L_law_1205] at h
  refine dr_aload_n l1 dL_law_1205 rfl ?_
  refine dr_aload_n 1000000 dL_law_1206 rfl ?_
  refine dr_iload_n l3 dL_law_1207 rfl ?_
  refine dr_iconst (1 : Int32) dL_law_1208 (by decide) ?_
  refine dr_iadd dL_law_1209 ?_
  obtain ⟨x1, e2, h⟩ := dtBind h
  refine dr_sload x1 dL_law_1210 e2 ?_
  refine dr_aload_n 1000000 dL_law_1211 rfl ?_
  refine dr_iload_n l3 dL_law_1212 rfl ?_
  refine dr_iconst (2 : Int32) dL_law_1213 (by decide) ?_
  refine dr_iadd dL_law_1214 ?_
  obtain ⟨x3, e4, h⟩ := dtBind h
  refine dr_sload x3 dL_law_1215 e4 ?_
  obtain ⟨_, hb5, h⟩ := dtBind h
  obtain ⟨x8, μ6, e7, h⟩ := dtCall h
  refine dr_callV_i (S0 := []) [.int x1, .int x3] x8 μ6 dL_law_1216 (c_X11_hearers l1 x1 x3 μ e7) mf_X11_hearers wt_1004 wt_1005 wt_1003 rfl (dtRv hb5) (by decide) rfl (Nat.le_of_ble_eq_true rfl) (Nat.le_of_ble_eq_true rfl) rfl ?_
  refine dr_aload_n l2 dL_law_1219 rfl ?_
  refine dr_aload_n 1000000 dL_law_1220 rfl ?_
  refine dr_iload_n l3 dL_law_1221 rfl ?_
  refine dr_iconst (1 : Int32) dL_law_1222 (by decide) ?_
  refine dr_iadd dL_law_1223 ?_
  obtain ⟨x9, e10, h⟩ := dtBind h
  refine dr_sload x9 dL_law_1224 e10 ?_
  refine dr_aload_n 1000000 dL_law_1225 rfl ?_
  refine dr_iload_n l3 dL_law_1226 rfl ?_
  refine dr_iconst (2 : Int32) dL_law_1227 (by decide) ?_
  refine dr_iadd dL_law_1228 ?_
  obtain ⟨x11, e12, h⟩ := dtBind h
  refine dr_sload x11 dL_law_1229 e12 ?_
  obtain ⟨_, hb13, h⟩ := dtBind h
  obtain ⟨x16, μ14, e15, h⟩ := dtCall h
  refine dr_callV_i (S0 := [.int x8]) [.int x9, .int x11] x16 μ14 dL_law_1230 (c_X12_hearers l2 x9 x11 μ6 e15) mf_X12_hearers wt_1760 wt_1761 wt_1759 rfl (dtRv hb13) (by decide) rfl (Nat.le_of_ble_eq_true rfl) (Nat.le_of_ble_eq_true rfl) rfl ?_
  obtain ⟨ht18, hf19⟩ := dtIte h
  refine dr_icmp_eq 2079 dL_law_1233 (by decide) (fun hc17 => ?_) (fun hc17 => ?_)
  · have h := ht18 hc17
    exact c_L_law_2079 k18 hk18 l1 l2 l3 μ14 h
  · have h := hf19 hc17
    refine dr_iconst (0 : Int32) dL_law_1236 (by decide) ?_
    obtain ⟨hz, rfl, rfl⟩ := dtRet h
    exact dr_ireturn dL_law_1237 (dtNz hz)
set_option maxRecDepth 100000 in
theorem c_L_law_1238 {r : Int32} {F : dtM} (k18 : Nat → Nat → Int32 → dtM → Option (Int32 × dtM)) (hk18 : ∀ (l1 : Nat) (l2 : Nat) (l3 : Int32) (μ : dtM), k18 l1 l2 l3 μ = some (r, F) → dtW yL_law cL_law 4 (some .boolean) 49 (some (.int r)) F 18 [some (.ref 1000000), some (.ref l1), some (.ref l2), some (.int l3)] [] μ) (l1 : Nat) (l2 : Nat) (l3 : Int32) (μ : dtM) (h : f_L_law_1238 k18 l1 l2 l3 μ = some (r, F)) : dtW yL_law cL_law 4 (some .boolean) 49 (some (.int r)) F 1238 [some (.ref 1000000), some (.ref l1), some (.ref l2), some (.int l3)] [] μ := by
  rw [f_L_law_1238] at h
  refine dr_aload_n l1 dL_law_1238 rfl ?_
  refine dr_aload_n 1000000 dL_law_1239 rfl ?_
  refine dr_iload_n l3 dL_law_1240 rfl ?_
  refine dr_iconst (1 : Int32) dL_law_1241 (by decide) ?_
  refine dr_iadd dL_law_1242 ?_
  obtain ⟨x1, e2, h⟩ := dtBind h
  refine dr_sload x1 dL_law_1243 e2 ?_
  refine dr_aload_n 1000000 dL_law_1244 rfl ?_
  refine dr_iload_n l3 dL_law_1245 rfl ?_
  refine dr_iconst (2 : Int32) dL_law_1246 (by decide) ?_
  refine dr_iadd dL_law_1247 ?_
  obtain ⟨x3, e4, h⟩ := dtBind h
  refine dr_sload x3 dL_law_1248 e4 ?_
  obtain ⟨_, hb5, h⟩ := dtBind h
  obtain ⟨x8, μ6, e7, h⟩ := dtCall h
  refine dr_callV_i (S0 := []) [.int x1, .int x3] x8 μ6 dL_law_1249 (c_X11_hears l1 x1 x3 μ e7) mf_X11_hears wt_1009 wt_1010 wt_1008 rfl (dtRv hb5) (by decide) rfl (Nat.le_of_ble_eq_true rfl) (Nat.le_of_ble_eq_true rfl) rfl ?_
  refine dr_aload_n l2 dL_law_1252 rfl ?_
  refine dr_aload_n 1000000 dL_law_1253 rfl ?_
  refine dr_iload_n l3 dL_law_1254 rfl ?_
  refine dr_iconst (1 : Int32) dL_law_1255 (by decide) ?_
  refine dr_iadd dL_law_1256 ?_
  obtain ⟨x9, e10, h⟩ := dtBind h
  refine dr_sload x9 dL_law_1257 e10 ?_
  refine dr_aload_n 1000000 dL_law_1258 rfl ?_
  refine dr_iload_n l3 dL_law_1259 rfl ?_
  refine dr_iconst (2 : Int32) dL_law_1260 (by decide) ?_
  refine dr_iadd dL_law_1261 ?_
  obtain ⟨x11, e12, h⟩ := dtBind h
  refine dr_sload x11 dL_law_1262 e12 ?_
  obtain ⟨_, hb13, h⟩ := dtBind h
  obtain ⟨x16, μ14, e15, h⟩ := dtCall h
  refine dr_callV_i (S0 := [.int x8]) [.int x9, .int x11] x16 μ14 dL_law_1263 (c_X12_hears l2 x9 x11 μ6 e15) mf_X12_hears wt_1778 wt_1779 wt_1777 rfl (dtRv hb13) (by decide) rfl (Nat.le_of_ble_eq_true rfl) (Nat.le_of_ble_eq_true rfl) rfl ?_
  obtain ⟨ht18, hf19⟩ := dtIte h
  refine dr_icmp_eq 2079 dL_law_1266 (by decide) (fun hc17 => ?_) (fun hc17 => ?_)
  · have h := ht18 hc17
    exact c_L_law_2079 k18 hk18 l1 l2 l3 μ14 h
  · have h := hf19 hc17
    refine dr_iconst (0 : Int32) dL_law_1269 (by decide) ?_
    obtain ⟨hz, rfl, rfl⟩ := dtRet h
    exact dr_ireturn dL_law_1270 (dtNz hz)
set_option maxRecDepth 100000 in
theorem c_L_law_1271 {r : Int32} {F : dtM} (k18 : Nat → Nat → Int32 → dtM → Option (Int32 × dtM)) (hk18 : ∀ (l1 : Nat) (l2 : Nat) (l3 : Int32) (μ : dtM), k18 l1 l2 l3 μ = some (r, F) → dtW yL_law cL_law 4 (some .boolean) 49 (some (.int r)) F 18 [some (.ref 1000000), some (.ref l1), some (.ref l2), some (.int l3)] [] μ) (l1 : Nat) (l2 : Nat) (l3 : Int32) (μ : dtM) (h : f_L_law_1271 k18 l1 l2 l3 μ = some (r, F)) : dtW yL_law cL_law 4 (some .boolean) 49 (some (.int r)) F 1271 [some (.ref 1000000), some (.ref l1), some (.ref l2), some (.int l3)] [] μ := by
  rw [f_L_law_1271] at h
  refine dr_aload_n l1 dL_law_1271 rfl ?_
  refine dr_aload_n 1000000 dL_law_1272 rfl ?_
  refine dr_iload_n l3 dL_law_1273 rfl ?_
  refine dr_iconst (1 : Int32) dL_law_1274 (by decide) ?_
  refine dr_iadd dL_law_1275 ?_
  obtain ⟨x1, e2, h⟩ := dtBind h
  refine dr_sload x1 dL_law_1276 e2 ?_
  refine dr_aload_n 1000000 dL_law_1277 rfl ?_
  refine dr_iload_n l3 dL_law_1278 rfl ?_
  refine dr_iconst (2 : Int32) dL_law_1279 (by decide) ?_
  refine dr_iadd dL_law_1280 ?_
  obtain ⟨x3, e4, h⟩ := dtBind h
  refine dr_sload x3 dL_law_1281 e4 ?_
  refine dr_aload_n 1000000 dL_law_1282 rfl ?_
  refine dr_iload_n l3 dL_law_1283 rfl ?_
  refine dr_iconst (3 : Int32) dL_law_1284 (by decide) ?_
  refine dr_iadd dL_law_1285 ?_
  obtain ⟨x5, e6, h⟩ := dtBind h
  refine dr_sload x5 dL_law_1286 e6 ?_
  obtain ⟨_, hb7, h⟩ := dtBind h
  obtain ⟨x10, μ8, e9, h⟩ := dtCall h
  refine dr_callV_i (S0 := []) [.int x1, .int x3, .int x5] x10 μ8 dL_law_1287 (c_X11_hush l1 x1 x3 x5 μ e9) mf_X11_hush wt_1017 wt_1018 wt_1016 rfl (dtRv hb7) (by decide) rfl (Nat.le_of_ble_eq_true rfl) (Nat.le_of_ble_eq_true rfl) rfl ?_
  refine dr_aload_n l2 dL_law_1290 rfl ?_
  refine dr_aload_n 1000000 dL_law_1291 rfl ?_
  refine dr_iload_n l3 dL_law_1292 rfl ?_
  refine dr_iconst (1 : Int32) dL_law_1293 (by decide) ?_
  refine dr_iadd dL_law_1294 ?_
  obtain ⟨x11, e12, h⟩ := dtBind h
  refine dr_sload x11 dL_law_1295 e12 ?_
  refine dr_aload_n 1000000 dL_law_1296 rfl ?_
  refine dr_iload_n l3 dL_law_1297 rfl ?_
  refine dr_iconst (2 : Int32) dL_law_1298 (by decide) ?_
  refine dr_iadd dL_law_1299 ?_
  obtain ⟨x13, e14, h⟩ := dtBind h
  refine dr_sload x13 dL_law_1300 e14 ?_
  refine dr_aload_n 1000000 dL_law_1301 rfl ?_
  refine dr_iload_n l3 dL_law_1302 rfl ?_
  refine dr_iconst (3 : Int32) dL_law_1303 (by decide) ?_
  refine dr_iadd dL_law_1304 ?_
  obtain ⟨x15, e16, h⟩ := dtBind h
  refine dr_sload x15 dL_law_1305 e16 ?_
  obtain ⟨_, hb17, h⟩ := dtBind h
  obtain ⟨x20, μ18, e19, h⟩ := dtCall h
  refine dr_callV_i (S0 := [.int x10]) [.int x11, .int x13, .int x15] x20 μ18 dL_law_1306 (c_X12_hush l2 x11 x13 x15 μ8 e19) mf_X12_hush wt_1782 wt_1783 wt_1781 rfl (dtRv hb17) (by decide) rfl (Nat.le_of_ble_eq_true rfl) (Nat.le_of_ble_eq_true rfl) rfl ?_
  obtain ⟨ht22, hf23⟩ := dtIte h
  refine dr_icmp_eq 2079 dL_law_1309 (by decide) (fun hc21 => ?_) (fun hc21 => ?_)
  · have h := ht22 hc21
    exact c_L_law_2079 k18 hk18 l1 l2 l3 μ18 h
  · have h := hf23 hc21
    refine dr_iconst (0 : Int32) dL_law_1312 (by decide) ?_
    obtain ⟨hz, rfl, rfl⟩ := dtRet h
    exact dr_ireturn dL_law_1313 (dtNz hz)
set_option maxRecDepth 100000 in
theorem c_L_law_1314 {r : Int32} {F : dtM} (k18 : Nat → Nat → Int32 → dtM → Option (Int32 × dtM)) (hk18 : ∀ (l1 : Nat) (l2 : Nat) (l3 : Int32) (μ : dtM), k18 l1 l2 l3 μ = some (r, F) → dtW yL_law cL_law 4 (some .boolean) 49 (some (.int r)) F 18 [some (.ref 1000000), some (.ref l1), some (.ref l2), some (.int l3)] [] μ) (l1 : Nat) (l2 : Nat) (l3 : Int32) (μ : dtM) (h : f_L_law_1314 k18 l1 l2 l3 μ = some (r, F)) : dtW yL_law cL_law 4 (some .boolean) 49 (some (.int r)) F 1314 [some (.ref 1000000), some (.ref l1), some (.ref l2), some (.int l3)] [] μ := by
  rw [f_L_law_1314] at h
  refine dr_aload_n l1 dL_law_1314 rfl ?_
  refine dr_aload_n 1000000 dL_law_1315 rfl ?_
  refine dr_iload_n l3 dL_law_1316 rfl ?_
  refine dr_iconst (1 : Int32) dL_law_1317 (by decide) ?_
  refine dr_iadd dL_law_1318 ?_
  obtain ⟨x1, e2, h⟩ := dtBind h
  refine dr_sload x1 dL_law_1319 e2 ?_
  refine dr_aload_n 1000000 dL_law_1320 rfl ?_
  refine dr_iload_n l3 dL_law_1321 rfl ?_
  refine dr_iconst (2 : Int32) dL_law_1322 (by decide) ?_
  refine dr_iadd dL_law_1323 ?_
  obtain ⟨x3, e4, h⟩ := dtBind h
  refine dr_sload x3 dL_law_1324 e4 ?_
  refine dr_aload_n 1000000 dL_law_1325 rfl ?_
  refine dr_iload_n l3 dL_law_1326 rfl ?_
  refine dr_iconst (3 : Int32) dL_law_1327 (by decide) ?_
  refine dr_iadd dL_law_1328 ?_
  obtain ⟨x5, e6, h⟩ := dtBind h
  refine dr_sload x5 dL_law_1329 e6 ?_
  refine dr_aload_n 1000000 dL_law_1330 rfl ?_
  refine dr_iload_n l3 dL_law_1331 rfl ?_
  refine dr_iconst (4 : Int32) dL_law_1332 (by decide) ?_
  refine dr_iadd dL_law_1333 ?_
  obtain ⟨x7, e8, h⟩ := dtBind h
  refine dr_sload x7 dL_law_1334 e8 ?_
  obtain ⟨_, hb9, h⟩ := dtBind h
  obtain ⟨x12, μ10, e11, h⟩ := dtCall h
  refine dr_callV_i (S0 := []) [.int x1, .int x3, .int x5, .int x7] x12 μ10 dL_law_1335 (c_X11_secret l1 x1 x3 x5 x7 μ e11) mf_X11_secret wt_1025 wt_1026 wt_1024 rfl (dtRv hb9) (by decide) rfl (Nat.le_of_ble_eq_true rfl) (Nat.le_of_ble_eq_true rfl) rfl ?_
  refine dr_aload_n l2 dL_law_1338 rfl ?_
  refine dr_aload_n 1000000 dL_law_1339 rfl ?_
  refine dr_iload_n l3 dL_law_1340 rfl ?_
  refine dr_iconst (1 : Int32) dL_law_1341 (by decide) ?_
  refine dr_iadd dL_law_1342 ?_
  obtain ⟨x13, e14, h⟩ := dtBind h
  refine dr_sload x13 dL_law_1343 e14 ?_
  refine dr_aload_n 1000000 dL_law_1344 rfl ?_
  refine dr_iload_n l3 dL_law_1345 rfl ?_
  refine dr_iconst (2 : Int32) dL_law_1346 (by decide) ?_
  refine dr_iadd dL_law_1347 ?_
  obtain ⟨x15, e16, h⟩ := dtBind h
  refine dr_sload x15 dL_law_1348 e16 ?_
  refine dr_aload_n 1000000 dL_law_1349 rfl ?_
  refine dr_iload_n l3 dL_law_1350 rfl ?_
  refine dr_iconst (3 : Int32) dL_law_1351 (by decide) ?_
  refine dr_iadd dL_law_1352 ?_
  obtain ⟨x17, e18, h⟩ := dtBind h
  refine dr_sload x17 dL_law_1353 e18 ?_
  refine dr_aload_n 1000000 dL_law_1354 rfl ?_
  refine dr_iload_n l3 dL_law_1355 rfl ?_
  refine dr_iconst (4 : Int32) dL_law_1356 (by decide) ?_
  refine dr_iadd dL_law_1357 ?_
  obtain ⟨x19, e20, h⟩ := dtBind h
  refine dr_sload x19 dL_law_1358 e20 ?_
  obtain ⟨_, hb21, h⟩ := dtBind h
  obtain ⟨x24, μ22, e23, h⟩ := dtCall h
  refine dr_callV_i (S0 := [.int x12]) [.int x13, .int x15, .int x17, .int x19] x24 μ22 dL_law_1359 (c_X12_secret l2 x13 x15 x17 x19 μ10 e23) mf_X12_secret wt_1786 wt_1787 wt_1785 rfl (dtRv hb21) (by decide) rfl (Nat.le_of_ble_eq_true rfl) (Nat.le_of_ble_eq_true rfl) rfl ?_
  obtain ⟨ht26, hf27⟩ := dtIte h
  refine dr_icmp_eq 2079 dL_law_1362 (by decide) (fun hc25 => ?_) (fun hc25 => ?_)
  · have h := ht26 hc25
    exact c_L_law_2079 k18 hk18 l1 l2 l3 μ22 h
  · have h := hf27 hc25
    refine dr_iconst (0 : Int32) dL_law_1365 (by decide) ?_
    obtain ⟨hz, rfl, rfl⟩ := dtRet h
    exact dr_ireturn dL_law_1366 (dtNz hz)
set_option maxRecDepth 100000 in
theorem c_L_law_1367 {r : Int32} {F : dtM} (k18 : Nat → Nat → Int32 → dtM → Option (Int32 × dtM)) (hk18 : ∀ (l1 : Nat) (l2 : Nat) (l3 : Int32) (μ : dtM), k18 l1 l2 l3 μ = some (r, F) → dtW yL_law cL_law 4 (some .boolean) 49 (some (.int r)) F 18 [some (.ref 1000000), some (.ref l1), some (.ref l2), some (.int l3)] [] μ) (l1 : Nat) (l2 : Nat) (l3 : Int32) (μ : dtM) (h : f_L_law_1367 k18 l1 l2 l3 μ = some (r, F)) : dtW yL_law cL_law 4 (some .boolean) 49 (some (.int r)) F 1367 [some (.ref 1000000), some (.ref l1), some (.ref l2), some (.int l3)] [] μ := by
  rw [f_L_law_1367] at h
  refine dr_aload_n l1 dL_law_1367 rfl ?_
  refine dr_aload_n 1000000 dL_law_1368 rfl ?_
  refine dr_iload_n l3 dL_law_1369 rfl ?_
  refine dr_iconst (1 : Int32) dL_law_1370 (by decide) ?_
  refine dr_iadd dL_law_1371 ?_
  obtain ⟨x1, e2, h⟩ := dtBind h
  refine dr_sload x1 dL_law_1372 e2 ?_
  obtain ⟨_, hb3, h⟩ := dtBind h
  obtain ⟨x6, μ4, e5, h⟩ := dtCall h
  refine dr_callV_i (S0 := []) [.int x1] x6 μ4 dL_law_1373 (c_X11_readings l1 x1 μ e5) mf_X11_readings wt_1046 wt_1047 wt_1045 rfl (dtRv hb3) (by decide) rfl (Nat.le_of_ble_eq_true rfl) (Nat.le_of_ble_eq_true rfl) rfl ?_
  refine dr_aload_n l2 dL_law_1376 rfl ?_
  refine dr_aload_n 1000000 dL_law_1377 rfl ?_
  refine dr_iload_n l3 dL_law_1378 rfl ?_
  refine dr_iconst (1 : Int32) dL_law_1379 (by decide) ?_
  refine dr_iadd dL_law_1380 ?_
  obtain ⟨x7, e8, h⟩ := dtBind h
  refine dr_sload x7 dL_law_1381 e8 ?_
  obtain ⟨_, hb9, h⟩ := dtBind h
  obtain ⟨x12, μ10, e11, h⟩ := dtCall h
  refine dr_callV_i (S0 := [.int x6]) [.int x7] x12 μ10 dL_law_1382 (c_X12_readings l2 x7 μ4 e11) mf_X12_readings wt_1876 wt_1877 wt_1875 rfl (dtRv hb9) (by decide) rfl (Nat.le_of_ble_eq_true rfl) (Nat.le_of_ble_eq_true rfl) rfl ?_
  obtain ⟨ht14, hf15⟩ := dtIte h
  refine dr_icmp_eq 2079 dL_law_1385 (by decide) (fun hc13 => ?_) (fun hc13 => ?_)
  · have h := ht14 hc13
    exact c_L_law_2079 k18 hk18 l1 l2 l3 μ10 h
  · have h := hf15 hc13
    refine dr_iconst (0 : Int32) dL_law_1388 (by decide) ?_
    obtain ⟨hz, rfl, rfl⟩ := dtRet h
    exact dr_ireturn dL_law_1389 (dtNz hz)
set_option maxRecDepth 100000 in
theorem c_L_law_1390 {r : Int32} {F : dtM} (k18 : Nat → Nat → Int32 → dtM → Option (Int32 × dtM)) (hk18 : ∀ (l1 : Nat) (l2 : Nat) (l3 : Int32) (μ : dtM), k18 l1 l2 l3 μ = some (r, F) → dtW yL_law cL_law 4 (some .boolean) 49 (some (.int r)) F 18 [some (.ref 1000000), some (.ref l1), some (.ref l2), some (.int l3)] [] μ) (l1 : Nat) (l2 : Nat) (l3 : Int32) (μ : dtM) (h : f_L_law_1390 k18 l1 l2 l3 μ = some (r, F)) : dtW yL_law cL_law 4 (some .boolean) 49 (some (.int r)) F 1390 [some (.ref 1000000), some (.ref l1), some (.ref l2), some (.int l3)] [] μ := by
  rw [f_L_law_1390] at h
  refine dr_aload_n l1 dL_law_1390 rfl ?_
  refine dr_aload_n 1000000 dL_law_1391 rfl ?_
  refine dr_iload_n l3 dL_law_1392 rfl ?_
  refine dr_iconst (1 : Int32) dL_law_1393 (by decide) ?_
  refine dr_iadd dL_law_1394 ?_
  obtain ⟨x1, e2, h⟩ := dtBind h
  refine dr_sload x1 dL_law_1395 e2 ?_
  obtain ⟨_, hb3, h⟩ := dtBind h
  obtain ⟨x6, μ4, e5, h⟩ := dtCall h
  refine dr_callV_i (S0 := []) [.int x1] x6 μ4 dL_law_1396 (c_X11_first l1 x1 μ e5) mf_X11_first wt_1076 wt_1077 wt_1075 rfl (dtRv hb3) (by decide) rfl (Nat.le_of_ble_eq_true rfl) (Nat.le_of_ble_eq_true rfl) rfl ?_
  refine dr_aload_n l2 dL_law_1399 rfl ?_
  refine dr_aload_n 1000000 dL_law_1400 rfl ?_
  refine dr_iload_n l3 dL_law_1401 rfl ?_
  refine dr_iconst (1 : Int32) dL_law_1402 (by decide) ?_
  refine dr_iadd dL_law_1403 ?_
  obtain ⟨x7, e8, h⟩ := dtBind h
  refine dr_sload x7 dL_law_1404 e8 ?_
  obtain ⟨_, hb9, h⟩ := dtBind h
  obtain ⟨x12, μ10, e11, h⟩ := dtCall h
  refine dr_callV_i (S0 := [.int x6]) [.int x7] x12 μ10 dL_law_1405 (c_X12_first l2 x7 μ4 e11) mf_X12_first wt_1892 wt_1893 wt_1891 rfl (dtRv hb9) (by decide) rfl (Nat.le_of_ble_eq_true rfl) (Nat.le_of_ble_eq_true rfl) rfl ?_
  obtain ⟨ht14, hf15⟩ := dtIte h
  refine dr_icmp_eq 2079 dL_law_1408 (by decide) (fun hc13 => ?_) (fun hc13 => ?_)
  · have h := ht14 hc13
    exact c_L_law_2079 k18 hk18 l1 l2 l3 μ10 h
  · have h := hf15 hc13
    refine dr_iconst (0 : Int32) dL_law_1411 (by decide) ?_
    obtain ⟨hz, rfl, rfl⟩ := dtRet h
    exact dr_ireturn dL_law_1412 (dtNz hz)
set_option maxRecDepth 100000 in
theorem c_L_law_1413 {r : Int32} {F : dtM} (k18 : Nat → Nat → Int32 → dtM → Option (Int32 × dtM)) (hk18 : ∀ (l1 : Nat) (l2 : Nat) (l3 : Int32) (μ : dtM), k18 l1 l2 l3 μ = some (r, F) → dtW yL_law cL_law 4 (some .boolean) 49 (some (.int r)) F 18 [some (.ref 1000000), some (.ref l1), some (.ref l2), some (.int l3)] [] μ) (l1 : Nat) (l2 : Nat) (l3 : Int32) (μ : dtM) (h : f_L_law_1413 k18 l1 l2 l3 μ = some (r, F)) : dtW yL_law cL_law 4 (some .boolean) 49 (some (.int r)) F 1413 [some (.ref 1000000), some (.ref l1), some (.ref l2), some (.int l3)] [] μ := by
  rw [f_L_law_1413] at h
  refine dr_aload_n l1 dL_law_1413 rfl ?_
  refine dr_aload_n 1000000 dL_law_1414 rfl ?_
  refine dr_iload_n l3 dL_law_1415 rfl ?_
  refine dr_iconst (1 : Int32) dL_law_1416 (by decide) ?_
  refine dr_iadd dL_law_1417 ?_
  obtain ⟨x1, e2, h⟩ := dtBind h
  refine dr_sload x1 dL_law_1418 e2 ?_
  refine dr_aload_n 1000000 dL_law_1419 rfl ?_
  refine dr_iload_n l3 dL_law_1420 rfl ?_
  refine dr_iconst (2 : Int32) dL_law_1421 (by decide) ?_
  refine dr_iadd dL_law_1422 ?_
  obtain ⟨x3, e4, h⟩ := dtBind h
  refine dr_sload x3 dL_law_1423 e4 ?_
  obtain ⟨_, hb5, h⟩ := dtBind h
  obtain ⟨x8, μ6, e7, h⟩ := dtCall h
  refine dr_callV_i (S0 := []) [.int x1, .int x3] x8 μ6 dL_law_1424 (c_X11_firstAt l1 x1 x3 μ e7) mf_X11_firstAt wt_1089 wt_1090 wt_1088 rfl (dtRv hb5) (by decide) rfl (Nat.le_of_ble_eq_true rfl) (Nat.le_of_ble_eq_true rfl) rfl ?_
  refine dr_aload_n l2 dL_law_1427 rfl ?_
  refine dr_aload_n 1000000 dL_law_1428 rfl ?_
  refine dr_iload_n l3 dL_law_1429 rfl ?_
  refine dr_iconst (1 : Int32) dL_law_1430 (by decide) ?_
  refine dr_iadd dL_law_1431 ?_
  obtain ⟨x9, e10, h⟩ := dtBind h
  refine dr_sload x9 dL_law_1432 e10 ?_
  refine dr_aload_n 1000000 dL_law_1433 rfl ?_
  refine dr_iload_n l3 dL_law_1434 rfl ?_
  refine dr_iconst (2 : Int32) dL_law_1435 (by decide) ?_
  refine dr_iadd dL_law_1436 ?_
  obtain ⟨x11, e12, h⟩ := dtBind h
  refine dr_sload x11 dL_law_1437 e12 ?_
  obtain ⟨_, hb13, h⟩ := dtBind h
  obtain ⟨x16, μ14, e15, h⟩ := dtCall h
  refine dr_callV_i (S0 := [.int x8]) [.int x9, .int x11] x16 μ14 dL_law_1438 (c_X12_firstAt l2 x9 x11 μ6 e15) mf_X12_firstAt wt_1900 wt_1901 wt_1899 rfl (dtRv hb13) (by decide) rfl (Nat.le_of_ble_eq_true rfl) (Nat.le_of_ble_eq_true rfl) rfl ?_
  obtain ⟨ht18, hf19⟩ := dtIte h
  refine dr_icmp_eq 2079 dL_law_1441 (by decide) (fun hc17 => ?_) (fun hc17 => ?_)
  · have h := ht18 hc17
    exact c_L_law_2079 k18 hk18 l1 l2 l3 μ14 h
  · have h := hf19 hc17
    refine dr_iconst (0 : Int32) dL_law_1444 (by decide) ?_
    obtain ⟨hz, rfl, rfl⟩ := dtRet h
    exact dr_ireturn dL_law_1445 (dtNz hz)
set_option maxRecDepth 100000 in
theorem c_L_law_1446 {r : Int32} {F : dtM} (k18 : Nat → Nat → Int32 → dtM → Option (Int32 × dtM)) (hk18 : ∀ (l1 : Nat) (l2 : Nat) (l3 : Int32) (μ : dtM), k18 l1 l2 l3 μ = some (r, F) → dtW yL_law cL_law 4 (some .boolean) 49 (some (.int r)) F 18 [some (.ref 1000000), some (.ref l1), some (.ref l2), some (.int l3)] [] μ) (l1 : Nat) (l2 : Nat) (l3 : Int32) (μ : dtM) (h : f_L_law_1446 k18 l1 l2 l3 μ = some (r, F)) : dtW yL_law cL_law 4 (some .boolean) 49 (some (.int r)) F 1446 [some (.ref 1000000), some (.ref l1), some (.ref l2), some (.int l3)] [] μ := by
  rw [f_L_law_1446] at h
  refine dr_aload_n l1 dL_law_1446 rfl ?_
  refine dr_aload_n 1000000 dL_law_1447 rfl ?_
  refine dr_iload_n l3 dL_law_1448 rfl ?_
  refine dr_iconst (1 : Int32) dL_law_1449 (by decide) ?_
  refine dr_iadd dL_law_1450 ?_
  obtain ⟨x1, e2, h⟩ := dtBind h
  refine dr_sload x1 dL_law_1451 e2 ?_
  refine dr_aload_n 1000000 dL_law_1452 rfl ?_
  refine dr_iload_n l3 dL_law_1453 rfl ?_
  refine dr_iconst (2 : Int32) dL_law_1454 (by decide) ?_
  refine dr_iadd dL_law_1455 ?_
  obtain ⟨x3, e4, h⟩ := dtBind h
  refine dr_sload x3 dL_law_1456 e4 ?_
  refine dr_aload_n 1000000 dL_law_1457 rfl ?_
  refine dr_iload_n l3 dL_law_1458 rfl ?_
  refine dr_iconst (3 : Int32) dL_law_1459 (by decide) ?_
  refine dr_iadd dL_law_1460 ?_
  obtain ⟨x5, e6, h⟩ := dtBind h
  refine dr_sload x5 dL_law_1461 e6 ?_
  obtain ⟨_, hb7, h⟩ := dtBind h
  obtain ⟨x10, μ8, e9, h⟩ := dtCall h
  refine dr_callV_i (S0 := []) [.int x1, .int x3, .int x5] x10 μ8 dL_law_1462 (c_X11_means l1 x1 x3 x5 μ e9) mf_X11_means wt_1098 wt_1099 wt_1097 rfl (dtRv hb7) (by decide) rfl (Nat.le_of_ble_eq_true rfl) (Nat.le_of_ble_eq_true rfl) rfl ?_
  refine dr_aload_n l2 dL_law_1465 rfl ?_
  refine dr_aload_n 1000000 dL_law_1466 rfl ?_
  refine dr_iload_n l3 dL_law_1467 rfl ?_
  refine dr_iconst (1 : Int32) dL_law_1468 (by decide) ?_
  refine dr_iadd dL_law_1469 ?_
  obtain ⟨x11, e12, h⟩ := dtBind h
  refine dr_sload x11 dL_law_1470 e12 ?_
  refine dr_aload_n 1000000 dL_law_1471 rfl ?_
  refine dr_iload_n l3 dL_law_1472 rfl ?_
  refine dr_iconst (2 : Int32) dL_law_1473 (by decide) ?_
  refine dr_iadd dL_law_1474 ?_
  obtain ⟨x13, e14, h⟩ := dtBind h
  refine dr_sload x13 dL_law_1475 e14 ?_
  refine dr_aload_n 1000000 dL_law_1476 rfl ?_
  refine dr_iload_n l3 dL_law_1477 rfl ?_
  refine dr_iconst (3 : Int32) dL_law_1478 (by decide) ?_
  refine dr_iadd dL_law_1479 ?_
  obtain ⟨x15, e16, h⟩ := dtBind h
  refine dr_sload x15 dL_law_1480 e16 ?_
  obtain ⟨_, hb17, h⟩ := dtBind h
  obtain ⟨x20, μ18, e19, h⟩ := dtCall h
  refine dr_callV_i (S0 := [.int x10]) [.int x11, .int x13, .int x15] x20 μ18 dL_law_1481 (c_X12_means l2 x11 x13 x15 μ8 e19) mf_X12_means wt_1904 wt_1905 wt_1903 rfl (dtRv hb17) (by decide) rfl (Nat.le_of_ble_eq_true rfl) (Nat.le_of_ble_eq_true rfl) rfl ?_
  obtain ⟨ht22, hf23⟩ := dtIte h
  refine dr_icmp_eq 2079 dL_law_1484 (by decide) (fun hc21 => ?_) (fun hc21 => ?_)
  · have h := ht22 hc21
    exact c_L_law_2079 k18 hk18 l1 l2 l3 μ18 h
  · have h := hf23 hc21
    refine dr_iconst (0 : Int32) dL_law_1487 (by decide) ?_
    obtain ⟨hz, rfl, rfl⟩ := dtRet h
    exact dr_ireturn dL_law_1488 (dtNz hz)
set_option maxRecDepth 100000 in
theorem c_L_law_1489 {r : Int32} {F : dtM} (k18 : Nat → Nat → Int32 → dtM → Option (Int32 × dtM)) (hk18 : ∀ (l1 : Nat) (l2 : Nat) (l3 : Int32) (μ : dtM), k18 l1 l2 l3 μ = some (r, F) → dtW yL_law cL_law 4 (some .boolean) 49 (some (.int r)) F 18 [some (.ref 1000000), some (.ref l1), some (.ref l2), some (.int l3)] [] μ) (l1 : Nat) (l2 : Nat) (l3 : Int32) (μ : dtM) (h : f_L_law_1489 k18 l1 l2 l3 μ = some (r, F)) : dtW yL_law cL_law 4 (some .boolean) 49 (some (.int r)) F 1489 [some (.ref 1000000), some (.ref l1), some (.ref l2), some (.int l3)] [] μ := by
  rw [f_L_law_1489] at h
  refine dr_aload_n l1 dL_law_1489 rfl ?_
  refine dr_aload_n 1000000 dL_law_1490 rfl ?_
  refine dr_iload_n l3 dL_law_1491 rfl ?_
  refine dr_iconst (1 : Int32) dL_law_1492 (by decide) ?_
  refine dr_iadd dL_law_1493 ?_
  obtain ⟨x1, e2, h⟩ := dtBind h
  refine dr_sload x1 dL_law_1494 e2 ?_
  refine dr_aload_n 1000000 dL_law_1495 rfl ?_
  refine dr_iload_n l3 dL_law_1496 rfl ?_
  refine dr_iconst (2 : Int32) dL_law_1497 (by decide) ?_
  refine dr_iadd dL_law_1498 ?_
  obtain ⟨x3, e4, h⟩ := dtBind h
  refine dr_sload x3 dL_law_1499 e4 ?_
  refine dr_aload_n 1000000 dL_law_1500 rfl ?_
  refine dr_iload_n l3 dL_law_1501 rfl ?_
  refine dr_iconst (3 : Int32) dL_law_1502 (by decide) ?_
  refine dr_iadd dL_law_1503 ?_
  obtain ⟨x5, e6, h⟩ := dtBind h
  refine dr_sload x5 dL_law_1504 e6 ?_
  obtain ⟨_, hb7, h⟩ := dtBind h
  obtain ⟨x10, μ8, e9, h⟩ := dtCall h
  refine dr_callV_i (S0 := []) [.int x1, .int x3, .int x5] x10 μ8 dL_law_1505 (c_X11_unsaid l1 x1 x3 x5 μ e9) mf_X11_unsaid wt_1104 wt_1105 wt_1103 rfl (dtRv hb7) (by decide) rfl (Nat.le_of_ble_eq_true rfl) (Nat.le_of_ble_eq_true rfl) rfl ?_
  refine dr_aload_n l2 dL_law_1508 rfl ?_
  refine dr_aload_n 1000000 dL_law_1509 rfl ?_
  refine dr_iload_n l3 dL_law_1510 rfl ?_
  refine dr_iconst (1 : Int32) dL_law_1511 (by decide) ?_
  refine dr_iadd dL_law_1512 ?_
  obtain ⟨x11, e12, h⟩ := dtBind h
  refine dr_sload x11 dL_law_1513 e12 ?_
  refine dr_aload_n 1000000 dL_law_1514 rfl ?_
  refine dr_iload_n l3 dL_law_1515 rfl ?_
  refine dr_iconst (2 : Int32) dL_law_1516 (by decide) ?_
  refine dr_iadd dL_law_1517 ?_
  obtain ⟨x13, e14, h⟩ := dtBind h
  refine dr_sload x13 dL_law_1518 e14 ?_
  refine dr_aload_n 1000000 dL_law_1519 rfl ?_
  refine dr_iload_n l3 dL_law_1520 rfl ?_
  refine dr_iconst (3 : Int32) dL_law_1521 (by decide) ?_
  refine dr_iadd dL_law_1522 ?_
  obtain ⟨x15, e16, h⟩ := dtBind h
  refine dr_sload x15 dL_law_1523 e16 ?_
  obtain ⟨_, hb17, h⟩ := dtBind h
  obtain ⟨x20, μ18, e19, h⟩ := dtCall h
  refine dr_callV_i (S0 := [.int x10]) [.int x11, .int x13, .int x15] x20 μ18 dL_law_1524 (c_X12_unsaid l2 x11 x13 x15 μ8 e19) mf_X12_unsaid wt_1912 wt_1913 wt_1911 rfl (dtRv hb17) (by decide) rfl (Nat.le_of_ble_eq_true rfl) (Nat.le_of_ble_eq_true rfl) rfl ?_
  obtain ⟨ht22, hf23⟩ := dtIte h
  refine dr_icmp_eq 2079 dL_law_1527 (by decide) (fun hc21 => ?_) (fun hc21 => ?_)
  · have h := ht22 hc21
    exact c_L_law_2079 k18 hk18 l1 l2 l3 μ18 h
  · have h := hf23 hc21
    refine dr_iconst (0 : Int32) dL_law_1530 (by decide) ?_
    obtain ⟨hz, rfl, rfl⟩ := dtRet h
    exact dr_ireturn dL_law_1531 (dtNz hz)
set_option maxRecDepth 100000 in
theorem c_L_law_1532 {r : Int32} {F : dtM} (k18 : Nat → Nat → Int32 → dtM → Option (Int32 × dtM)) (hk18 : ∀ (l1 : Nat) (l2 : Nat) (l3 : Int32) (μ : dtM), k18 l1 l2 l3 μ = some (r, F) → dtW yL_law cL_law 4 (some .boolean) 49 (some (.int r)) F 18 [some (.ref 1000000), some (.ref l1), some (.ref l2), some (.int l3)] [] μ) (l1 : Nat) (l2 : Nat) (l3 : Int32) (μ : dtM) (h : f_L_law_1532 k18 l1 l2 l3 μ = some (r, F)) : dtW yL_law cL_law 4 (some .boolean) 49 (some (.int r)) F 1532 [some (.ref 1000000), some (.ref l1), some (.ref l2), some (.int l3)] [] μ := by
  rw [f_L_law_1532] at h
  refine dr_aload_n l1 dL_law_1532 rfl ?_
  refine dr_aload_n 1000000 dL_law_1533 rfl ?_
  refine dr_iload_n l3 dL_law_1534 rfl ?_
  refine dr_iconst (1 : Int32) dL_law_1535 (by decide) ?_
  refine dr_iadd dL_law_1536 ?_
  obtain ⟨x1, e2, h⟩ := dtBind h
  refine dr_sload x1 dL_law_1537 e2 ?_
  obtain ⟨_, hb3, h⟩ := dtBind h
  obtain ⟨x6, μ4, e5, h⟩ := dtCall h
  refine dr_callV_i (S0 := []) [.int x1] x6 μ4 dL_law_1538 (c_X11_doubt l1 x1 μ e5) mf_X11_doubt wt_1112 wt_1113 wt_1111 rfl (dtRv hb3) (by decide) rfl (Nat.le_of_ble_eq_true rfl) (Nat.le_of_ble_eq_true rfl) rfl ?_
  refine dr_aload_n l2 dL_law_1541 rfl ?_
  refine dr_aload_n 1000000 dL_law_1542 rfl ?_
  refine dr_iload_n l3 dL_law_1543 rfl ?_
  refine dr_iconst (1 : Int32) dL_law_1544 (by decide) ?_
  refine dr_iadd dL_law_1545 ?_
  obtain ⟨x7, e8, h⟩ := dtBind h
  refine dr_sload x7 dL_law_1546 e8 ?_
  obtain ⟨_, hb9, h⟩ := dtBind h
  obtain ⟨x12, μ10, e11, h⟩ := dtCall h
  refine dr_callV_i (S0 := [.int x6]) [.int x7] x12 μ10 dL_law_1547 (c_X12_doubt l2 x7 μ4 e11) mf_X12_doubt wt_1920 wt_1921 wt_1919 rfl (dtRv hb9) (by decide) rfl (Nat.le_of_ble_eq_true rfl) (Nat.le_of_ble_eq_true rfl) rfl ?_
  obtain ⟨ht14, hf15⟩ := dtIte h
  refine dr_icmp_eq 2079 dL_law_1550 (by decide) (fun hc13 => ?_) (fun hc13 => ?_)
  · have h := ht14 hc13
    exact c_L_law_2079 k18 hk18 l1 l2 l3 μ10 h
  · have h := hf15 hc13
    refine dr_iconst (0 : Int32) dL_law_1553 (by decide) ?_
    obtain ⟨hz, rfl, rfl⟩ := dtRet h
    exact dr_ireturn dL_law_1554 (dtNz hz)
set_option maxRecDepth 100000 in
theorem c_L_law_1555 {r : Int32} {F : dtM} (k18 : Nat → Nat → Int32 → dtM → Option (Int32 × dtM)) (hk18 : ∀ (l1 : Nat) (l2 : Nat) (l3 : Int32) (μ : dtM), k18 l1 l2 l3 μ = some (r, F) → dtW yL_law cL_law 4 (some .boolean) 49 (some (.int r)) F 18 [some (.ref 1000000), some (.ref l1), some (.ref l2), some (.int l3)] [] μ) (l1 : Nat) (l2 : Nat) (l3 : Int32) (μ : dtM) (h : f_L_law_1555 k18 l1 l2 l3 μ = some (r, F)) : dtW yL_law cL_law 4 (some .boolean) 49 (some (.int r)) F 1555 [some (.ref 1000000), some (.ref l1), some (.ref l2), some (.int l3)] [] μ := by
  rw [f_L_law_1555] at h
  refine dr_aload_n l1 dL_law_1555 rfl ?_
  refine dr_aload_n 1000000 dL_law_1556 rfl ?_
  refine dr_iload_n l3 dL_law_1557 rfl ?_
  refine dr_iconst (1 : Int32) dL_law_1558 (by decide) ?_
  refine dr_iadd dL_law_1559 ?_
  obtain ⟨x1, e2, h⟩ := dtBind h
  refine dr_sload x1 dL_law_1560 e2 ?_
  refine dr_aload_n 1000000 dL_law_1561 rfl ?_
  refine dr_iload_n l3 dL_law_1562 rfl ?_
  refine dr_iconst (2 : Int32) dL_law_1563 (by decide) ?_
  refine dr_iadd dL_law_1564 ?_
  obtain ⟨x3, e4, h⟩ := dtBind h
  refine dr_sload x3 dL_law_1565 e4 ?_
  obtain ⟨_, hb5, h⟩ := dtBind h
  obtain ⟨x8, μ6, e7, h⟩ := dtCall h
  refine dr_callV_i (S0 := []) [.int x1, .int x3] x8 μ6 dL_law_1566 (c_X11_doubtAt l1 x1 x3 μ e7) mf_X11_doubtAt wt_1139 wt_1140 wt_1138 rfl (dtRv hb5) (by decide) rfl (Nat.le_of_ble_eq_true rfl) (Nat.le_of_ble_eq_true rfl) rfl ?_
  refine dr_aload_n l2 dL_law_1569 rfl ?_
  refine dr_aload_n 1000000 dL_law_1570 rfl ?_
  refine dr_iload_n l3 dL_law_1571 rfl ?_
  refine dr_iconst (1 : Int32) dL_law_1572 (by decide) ?_
  refine dr_iadd dL_law_1573 ?_
  obtain ⟨x9, e10, h⟩ := dtBind h
  refine dr_sload x9 dL_law_1574 e10 ?_
  refine dr_aload_n 1000000 dL_law_1575 rfl ?_
  refine dr_iload_n l3 dL_law_1576 rfl ?_
  refine dr_iconst (2 : Int32) dL_law_1577 (by decide) ?_
  refine dr_iadd dL_law_1578 ?_
  obtain ⟨x11, e12, h⟩ := dtBind h
  refine dr_sload x11 dL_law_1579 e12 ?_
  obtain ⟨_, hb13, h⟩ := dtBind h
  obtain ⟨x16, μ14, e15, h⟩ := dtCall h
  refine dr_callV_i (S0 := [.int x8]) [.int x9, .int x11] x16 μ14 dL_law_1580 (c_X12_doubtAt l2 x9 x11 μ6 e15) mf_X12_doubtAt wt_1928 wt_1929 wt_1927 rfl (dtRv hb13) (by decide) rfl (Nat.le_of_ble_eq_true rfl) (Nat.le_of_ble_eq_true rfl) rfl ?_
  obtain ⟨ht18, hf19⟩ := dtIte h
  refine dr_icmp_eq 2079 dL_law_1583 (by decide) (fun hc17 => ?_) (fun hc17 => ?_)
  · have h := ht18 hc17
    exact c_L_law_2079 k18 hk18 l1 l2 l3 μ14 h
  · have h := hf19 hc17
    refine dr_iconst (0 : Int32) dL_law_1586 (by decide) ?_
    obtain ⟨hz, rfl, rfl⟩ := dtRet h
    exact dr_ireturn dL_law_1587 (dtNz hz)
set_option maxRecDepth 100000 in
theorem c_L_law_1588 {r : Int32} {F : dtM} (k18 : Nat → Nat → Int32 → dtM → Option (Int32 × dtM)) (hk18 : ∀ (l1 : Nat) (l2 : Nat) (l3 : Int32) (μ : dtM), k18 l1 l2 l3 μ = some (r, F) → dtW yL_law cL_law 4 (some .boolean) 49 (some (.int r)) F 18 [some (.ref 1000000), some (.ref l1), some (.ref l2), some (.int l3)] [] μ) (l1 : Nat) (l2 : Nat) (l3 : Int32) (μ : dtM) (h : f_L_law_1588 k18 l1 l2 l3 μ = some (r, F)) : dtW yL_law cL_law 4 (some .boolean) 49 (some (.int r)) F 1588 [some (.ref 1000000), some (.ref l1), some (.ref l2), some (.int l3)] [] μ := by
  rw [f_L_law_1588] at h
  refine dr_aload_n l1 dL_law_1588 rfl ?_
  refine dr_aload_n 1000000 dL_law_1589 rfl ?_
  refine dr_iload_n l3 dL_law_1590 rfl ?_
  refine dr_iconst (1 : Int32) dL_law_1591 (by decide) ?_
  refine dr_iadd dL_law_1592 ?_
  obtain ⟨x1, e2, h⟩ := dtBind h
  refine dr_sload x1 dL_law_1593 e2 ?_
  refine dr_aload_n 1000000 dL_law_1594 rfl ?_
  refine dr_iload_n l3 dL_law_1595 rfl ?_
  refine dr_iconst (2 : Int32) dL_law_1596 (by decide) ?_
  refine dr_iadd dL_law_1597 ?_
  obtain ⟨x3, e4, h⟩ := dtBind h
  refine dr_sload x3 dL_law_1598 e4 ?_
  obtain ⟨_, hb5, h⟩ := dtBind h
  obtain ⟨x8, μ6, e7, h⟩ := dtCall h
  refine dr_callV_i (S0 := []) [.int x1, .int x3] x8 μ6 dL_law_1599 (c_X11_shared l1 x1 x3 μ e7) mf_X11_shared wt_1147 wt_1148 wt_1146 rfl (dtRv hb5) (by decide) rfl (Nat.le_of_ble_eq_true rfl) (Nat.le_of_ble_eq_true rfl) rfl ?_
  refine dr_aload_n l2 dL_law_1602 rfl ?_
  refine dr_aload_n 1000000 dL_law_1603 rfl ?_
  refine dr_iload_n l3 dL_law_1604 rfl ?_
  refine dr_iconst (1 : Int32) dL_law_1605 (by decide) ?_
  refine dr_iadd dL_law_1606 ?_
  obtain ⟨x9, e10, h⟩ := dtBind h
  refine dr_sload x9 dL_law_1607 e10 ?_
  refine dr_aload_n 1000000 dL_law_1608 rfl ?_
  refine dr_iload_n l3 dL_law_1609 rfl ?_
  refine dr_iconst (2 : Int32) dL_law_1610 (by decide) ?_
  refine dr_iadd dL_law_1611 ?_
  obtain ⟨x11, e12, h⟩ := dtBind h
  refine dr_sload x11 dL_law_1612 e12 ?_
  obtain ⟨_, hb13, h⟩ := dtBind h
  obtain ⟨x16, μ14, e15, h⟩ := dtCall h
  refine dr_callV_i (S0 := [.int x8]) [.int x9, .int x11] x16 μ14 dL_law_1613 (c_X12_shared l2 x9 x11 μ6 e15) mf_X12_shared wt_1932 wt_1933 wt_1931 rfl (dtRv hb13) (by decide) rfl (Nat.le_of_ble_eq_true rfl) (Nat.le_of_ble_eq_true rfl) rfl ?_
  obtain ⟨ht18, hf19⟩ := dtIte h
  refine dr_icmp_eq 2079 dL_law_1616 (by decide) (fun hc17 => ?_) (fun hc17 => ?_)
  · have h := ht18 hc17
    exact c_L_law_2079 k18 hk18 l1 l2 l3 μ14 h
  · have h := hf19 hc17
    refine dr_iconst (0 : Int32) dL_law_1619 (by decide) ?_
    obtain ⟨hz, rfl, rfl⟩ := dtRet h
    exact dr_ireturn dL_law_1620 (dtNz hz)
set_option maxRecDepth 100000 in
theorem c_L_law_1621 {r : Int32} {F : dtM} (k18 : Nat → Nat → Int32 → dtM → Option (Int32 × dtM)) (hk18 : ∀ (l1 : Nat) (l2 : Nat) (l3 : Int32) (μ : dtM), k18 l1 l2 l3 μ = some (r, F) → dtW yL_law cL_law 4 (some .boolean) 49 (some (.int r)) F 18 [some (.ref 1000000), some (.ref l1), some (.ref l2), some (.int l3)] [] μ) (l1 : Nat) (l2 : Nat) (l3 : Int32) (μ : dtM) (h : f_L_law_1621 k18 l1 l2 l3 μ = some (r, F)) : dtW yL_law cL_law 4 (some .boolean) 49 (some (.int r)) F 1621 [some (.ref 1000000), some (.ref l1), some (.ref l2), some (.int l3)] [] μ := by
  rw [f_L_law_1621] at h
  refine dr_aload_n l1 dL_law_1621 rfl ?_
  refine dr_aload_n 1000000 dL_law_1622 rfl ?_
  refine dr_iload_n l3 dL_law_1623 rfl ?_
  refine dr_iconst (1 : Int32) dL_law_1624 (by decide) ?_
  refine dr_iadd dL_law_1625 ?_
  obtain ⟨x1, e2, h⟩ := dtBind h
  refine dr_sload x1 dL_law_1626 e2 ?_
  refine dr_aload_n 1000000 dL_law_1627 rfl ?_
  refine dr_iload_n l3 dL_law_1628 rfl ?_
  refine dr_iconst (2 : Int32) dL_law_1629 (by decide) ?_
  refine dr_iadd dL_law_1630 ?_
  obtain ⟨x3, e4, h⟩ := dtBind h
  refine dr_sload x3 dL_law_1631 e4 ?_
  obtain ⟨_, hb5, h⟩ := dtBind h
  obtain ⟨x8, μ6, e7, h⟩ := dtCall h
  refine dr_callV_i (S0 := []) [.int x1, .int x3] x8 μ6 dL_law_1632 (c_X11_far l1 x1 x3 μ e7) mf_X11_far wt_1156 wt_1157 wt_1155 rfl (dtRv hb5) (by decide) rfl (Nat.le_of_ble_eq_true rfl) (Nat.le_of_ble_eq_true rfl) rfl ?_
  refine dr_aload_n l2 dL_law_1635 rfl ?_
  refine dr_aload_n 1000000 dL_law_1636 rfl ?_
  refine dr_iload_n l3 dL_law_1637 rfl ?_
  refine dr_iconst (1 : Int32) dL_law_1638 (by decide) ?_
  refine dr_iadd dL_law_1639 ?_
  obtain ⟨x9, e10, h⟩ := dtBind h
  refine dr_sload x9 dL_law_1640 e10 ?_
  refine dr_aload_n 1000000 dL_law_1641 rfl ?_
  refine dr_iload_n l3 dL_law_1642 rfl ?_
  refine dr_iconst (2 : Int32) dL_law_1643 (by decide) ?_
  refine dr_iadd dL_law_1644 ?_
  obtain ⟨x11, e12, h⟩ := dtBind h
  refine dr_sload x11 dL_law_1645 e12 ?_
  obtain ⟨_, hb13, h⟩ := dtBind h
  obtain ⟨x16, μ14, e15, h⟩ := dtCall h
  refine dr_callV_i (S0 := [.int x8]) [.int x9, .int x11] x16 μ14 dL_law_1646 (c_X12_far l2 x9 x11 μ6 e15) mf_X12_far wt_1936 wt_1937 wt_1935 rfl (dtRv hb13) (by decide) rfl (Nat.le_of_ble_eq_true rfl) (Nat.le_of_ble_eq_true rfl) rfl ?_
  obtain ⟨ht18, hf19⟩ := dtIte h
  refine dr_icmp_eq 2079 dL_law_1649 (by decide) (fun hc17 => ?_) (fun hc17 => ?_)
  · have h := ht18 hc17
    exact c_L_law_2079 k18 hk18 l1 l2 l3 μ14 h
  · have h := hf19 hc17
    refine dr_iconst (0 : Int32) dL_law_1652 (by decide) ?_
    obtain ⟨hz, rfl, rfl⟩ := dtRet h
    exact dr_ireturn dL_law_1653 (dtNz hz)
set_option maxRecDepth 100000 in
theorem c_L_law_1654 {r : Int32} {F : dtM} (k18 : Nat → Nat → Int32 → dtM → Option (Int32 × dtM)) (hk18 : ∀ (l1 : Nat) (l2 : Nat) (l3 : Int32) (μ : dtM), k18 l1 l2 l3 μ = some (r, F) → dtW yL_law cL_law 4 (some .boolean) 49 (some (.int r)) F 18 [some (.ref 1000000), some (.ref l1), some (.ref l2), some (.int l3)] [] μ) (l1 : Nat) (l2 : Nat) (l3 : Int32) (μ : dtM) (h : f_L_law_1654 k18 l1 l2 l3 μ = some (r, F)) : dtW yL_law cL_law 4 (some .boolean) 49 (some (.int r)) F 1654 [some (.ref 1000000), some (.ref l1), some (.ref l2), some (.int l3)] [] μ := by
  rw [f_L_law_1654] at h
  refine dr_aload_n l1 dL_law_1654 rfl ?_
  refine dr_aload_n 1000000 dL_law_1655 rfl ?_
  refine dr_iload_n l3 dL_law_1656 rfl ?_
  refine dr_iconst (1 : Int32) dL_law_1657 (by decide) ?_
  refine dr_iadd dL_law_1658 ?_
  obtain ⟨x1, e2, h⟩ := dtBind h
  refine dr_sload x1 dL_law_1659 e2 ?_
  refine dr_aload_n 1000000 dL_law_1660 rfl ?_
  refine dr_iload_n l3 dL_law_1661 rfl ?_
  refine dr_iconst (2 : Int32) dL_law_1662 (by decide) ?_
  refine dr_iadd dL_law_1663 ?_
  obtain ⟨x3, e4, h⟩ := dtBind h
  refine dr_sload x3 dL_law_1664 e4 ?_
  refine dr_aload_n 1000000 dL_law_1665 rfl ?_
  refine dr_iload_n l3 dL_law_1666 rfl ?_
  refine dr_iconst (3 : Int32) dL_law_1667 (by decide) ?_
  refine dr_iadd dL_law_1668 ?_
  obtain ⟨x5, e6, h⟩ := dtBind h
  refine dr_sload x5 dL_law_1669 e6 ?_
  obtain ⟨_, hb7, h⟩ := dtBind h
  obtain ⟨x10, μ8, e9, h⟩ := dtCall h
  refine dr_callV_i (S0 := []) [.int x1, .int x3, .int x5] x10 μ8 dL_law_1670 (c_X11_way l1 x1 x3 x5 μ e9) mf_X11_way wt_1163 wt_1164 wt_1162 rfl (dtRv hb7) (by decide) rfl (Nat.le_of_ble_eq_true rfl) (Nat.le_of_ble_eq_true rfl) rfl ?_
  refine dr_aload_n l2 dL_law_1673 rfl ?_
  refine dr_aload_n 1000000 dL_law_1674 rfl ?_
  refine dr_iload_n l3 dL_law_1675 rfl ?_
  refine dr_iconst (1 : Int32) dL_law_1676 (by decide) ?_
  refine dr_iadd dL_law_1677 ?_
  obtain ⟨x11, e12, h⟩ := dtBind h
  refine dr_sload x11 dL_law_1678 e12 ?_
  refine dr_aload_n 1000000 dL_law_1679 rfl ?_
  refine dr_iload_n l3 dL_law_1680 rfl ?_
  refine dr_iconst (2 : Int32) dL_law_1681 (by decide) ?_
  refine dr_iadd dL_law_1682 ?_
  obtain ⟨x13, e14, h⟩ := dtBind h
  refine dr_sload x13 dL_law_1683 e14 ?_
  refine dr_aload_n 1000000 dL_law_1684 rfl ?_
  refine dr_iload_n l3 dL_law_1685 rfl ?_
  refine dr_iconst (3 : Int32) dL_law_1686 (by decide) ?_
  refine dr_iadd dL_law_1687 ?_
  obtain ⟨x15, e16, h⟩ := dtBind h
  refine dr_sload x15 dL_law_1688 e16 ?_
  obtain ⟨_, hb17, h⟩ := dtBind h
  obtain ⟨x20, μ18, e19, h⟩ := dtCall h
  refine dr_callV_i (S0 := [.int x10]) [.int x11, .int x13, .int x15] x20 μ18 dL_law_1689 (c_X12_way l2 x11 x13 x15 μ8 e19) mf_X12_way wt_1944 wt_1945 wt_1943 rfl (dtRv hb17) (by decide) rfl (Nat.le_of_ble_eq_true rfl) (Nat.le_of_ble_eq_true rfl) rfl ?_
  obtain ⟨ht22, hf23⟩ := dtIte h
  refine dr_icmp_eq 2079 dL_law_1692 (by decide) (fun hc21 => ?_) (fun hc21 => ?_)
  · have h := ht22 hc21
    exact c_L_law_2079 k18 hk18 l1 l2 l3 μ18 h
  · have h := hf23 hc21
    refine dr_iconst (0 : Int32) dL_law_1695 (by decide) ?_
    obtain ⟨hz, rfl, rfl⟩ := dtRet h
    exact dr_ireturn dL_law_1696 (dtNz hz)
set_option maxRecDepth 100000 in
theorem c_L_law_1697 {r : Int32} {F : dtM} (k18 : Nat → Nat → Int32 → dtM → Option (Int32 × dtM)) (hk18 : ∀ (l1 : Nat) (l2 : Nat) (l3 : Int32) (μ : dtM), k18 l1 l2 l3 μ = some (r, F) → dtW yL_law cL_law 4 (some .boolean) 49 (some (.int r)) F 18 [some (.ref 1000000), some (.ref l1), some (.ref l2), some (.int l3)] [] μ) (l1 : Nat) (l2 : Nat) (l3 : Int32) (μ : dtM) (h : f_L_law_1697 k18 l1 l2 l3 μ = some (r, F)) : dtW yL_law cL_law 4 (some .boolean) 49 (some (.int r)) F 1697 [some (.ref 1000000), some (.ref l1), some (.ref l2), some (.int l3)] [] μ := by
  rw [f_L_law_1697] at h
  refine dr_aload_n l1 dL_law_1697 rfl ?_
  refine dr_aload_n 1000000 dL_law_1698 rfl ?_
  refine dr_iload_n l3 dL_law_1699 rfl ?_
  refine dr_iconst (1 : Int32) dL_law_1700 (by decide) ?_
  refine dr_iadd dL_law_1701 ?_
  obtain ⟨x1, e2, h⟩ := dtBind h
  refine dr_sload x1 dL_law_1702 e2 ?_
  obtain ⟨_, hb3, h⟩ := dtBind h
  obtain ⟨x6, μ4, e5, h⟩ := dtCall h
  refine dr_callV_i (S0 := []) [.int x1] x6 μ4 dL_law_1703 (c_X11_part l1 x1 μ e5) mf_X11_part wt_1174 wt_1175 wt_1173 rfl (dtRv hb3) (by decide) rfl (Nat.le_of_ble_eq_true rfl) (Nat.le_of_ble_eq_true rfl) rfl ?_
  refine dr_aload_n l2 dL_law_1706 rfl ?_
  refine dr_aload_n 1000000 dL_law_1707 rfl ?_
  refine dr_iload_n l3 dL_law_1708 rfl ?_
  refine dr_iconst (1 : Int32) dL_law_1709 (by decide) ?_
  refine dr_iadd dL_law_1710 ?_
  obtain ⟨x7, e8, h⟩ := dtBind h
  refine dr_sload x7 dL_law_1711 e8 ?_
  obtain ⟨_, hb9, h⟩ := dtBind h
  obtain ⟨x12, μ10, e11, h⟩ := dtCall h
  refine dr_callV_i (S0 := [.int x6]) [.int x7] x12 μ10 dL_law_1712 (c_X12_part l2 x7 μ4 e11) mf_X12_part wt_1952 wt_1953 wt_1951 rfl (dtRv hb9) (by decide) rfl (Nat.le_of_ble_eq_true rfl) (Nat.le_of_ble_eq_true rfl) rfl ?_
  obtain ⟨ht14, hf15⟩ := dtIte h
  refine dr_icmp_eq 2079 dL_law_1715 (by decide) (fun hc13 => ?_) (fun hc13 => ?_)
  · have h := ht14 hc13
    exact c_L_law_2079 k18 hk18 l1 l2 l3 μ10 h
  · have h := hf15 hc13
    refine dr_iconst (0 : Int32) dL_law_1718 (by decide) ?_
    obtain ⟨hz, rfl, rfl⟩ := dtRet h
    exact dr_ireturn dL_law_1719 (dtNz hz)
set_option maxRecDepth 100000 in
theorem c_L_law_1720 {r : Int32} {F : dtM} (k18 : Nat → Nat → Int32 → dtM → Option (Int32 × dtM)) (hk18 : ∀ (l1 : Nat) (l2 : Nat) (l3 : Int32) (μ : dtM), k18 l1 l2 l3 μ = some (r, F) → dtW yL_law cL_law 4 (some .boolean) 49 (some (.int r)) F 18 [some (.ref 1000000), some (.ref l1), some (.ref l2), some (.int l3)] [] μ) (l1 : Nat) (l2 : Nat) (l3 : Int32) (μ : dtM) (h : f_L_law_1720 k18 l1 l2 l3 μ = some (r, F)) : dtW yL_law cL_law 4 (some .boolean) 49 (some (.int r)) F 1720 [some (.ref 1000000), some (.ref l1), some (.ref l2), some (.int l3)] [] μ := by
  rw [f_L_law_1720] at h
  refine dr_aload_n l1 dL_law_1720 rfl ?_
  refine dr_aload_n 1000000 dL_law_1721 rfl ?_
  refine dr_iload_n l3 dL_law_1722 rfl ?_
  refine dr_iconst (1 : Int32) dL_law_1723 (by decide) ?_
  refine dr_iadd dL_law_1724 ?_
  obtain ⟨x1, e2, h⟩ := dtBind h
  refine dr_sload x1 dL_law_1725 e2 ?_
  refine dr_aload_n 1000000 dL_law_1726 rfl ?_
  refine dr_iload_n l3 dL_law_1727 rfl ?_
  refine dr_iconst (2 : Int32) dL_law_1728 (by decide) ?_
  refine dr_iadd dL_law_1729 ?_
  obtain ⟨x3, e4, h⟩ := dtBind h
  refine dr_sload x3 dL_law_1730 e4 ?_
  obtain ⟨_, hb5, h⟩ := dtBind h
  obtain ⟨x8, μ6, e7, h⟩ := dtCall h
  refine dr_callV_i (S0 := []) [.int x1, .int x3] x8 μ6 dL_law_1731 (c_X11_apart l1 x1 x3 μ e7) mf_X11_apart wt_1179 wt_1180 wt_1178 rfl (dtRv hb5) (by decide) rfl (Nat.le_of_ble_eq_true rfl) (Nat.le_of_ble_eq_true rfl) rfl ?_
  refine dr_aload_n l2 dL_law_1734 rfl ?_
  refine dr_aload_n 1000000 dL_law_1735 rfl ?_
  refine dr_iload_n l3 dL_law_1736 rfl ?_
  refine dr_iconst (1 : Int32) dL_law_1737 (by decide) ?_
  refine dr_iadd dL_law_1738 ?_
  obtain ⟨x9, e10, h⟩ := dtBind h
  refine dr_sload x9 dL_law_1739 e10 ?_
  refine dr_aload_n 1000000 dL_law_1740 rfl ?_
  refine dr_iload_n l3 dL_law_1741 rfl ?_
  refine dr_iconst (2 : Int32) dL_law_1742 (by decide) ?_
  refine dr_iadd dL_law_1743 ?_
  obtain ⟨x11, e12, h⟩ := dtBind h
  refine dr_sload x11 dL_law_1744 e12 ?_
  obtain ⟨_, hb13, h⟩ := dtBind h
  obtain ⟨x16, μ14, e15, h⟩ := dtCall h
  refine dr_callV_i (S0 := [.int x8]) [.int x9, .int x11] x16 μ14 dL_law_1745 (c_X12_apart l2 x9 x11 μ6 e15) mf_X12_apart wt_1956 wt_1957 wt_1955 rfl (dtRv hb13) (by decide) rfl (Nat.le_of_ble_eq_true rfl) (Nat.le_of_ble_eq_true rfl) rfl ?_
  obtain ⟨ht18, hf19⟩ := dtIte h
  refine dr_icmp_eq 2079 dL_law_1748 (by decide) (fun hc17 => ?_) (fun hc17 => ?_)
  · have h := ht18 hc17
    exact c_L_law_2079 k18 hk18 l1 l2 l3 μ14 h
  · have h := hf19 hc17
    refine dr_iconst (0 : Int32) dL_law_1751 (by decide) ?_
    obtain ⟨hz, rfl, rfl⟩ := dtRet h
    exact dr_ireturn dL_law_1752 (dtNz hz)
set_option maxRecDepth 100000 in
theorem c_L_law_1753 {r : Int32} {F : dtM} (k18 : Nat → Nat → Int32 → dtM → Option (Int32 × dtM)) (hk18 : ∀ (l1 : Nat) (l2 : Nat) (l3 : Int32) (μ : dtM), k18 l1 l2 l3 μ = some (r, F) → dtW yL_law cL_law 4 (some .boolean) 49 (some (.int r)) F 18 [some (.ref 1000000), some (.ref l1), some (.ref l2), some (.int l3)] [] μ) (l1 : Nat) (l2 : Nat) (l3 : Int32) (μ : dtM) (h : f_L_law_1753 k18 l1 l2 l3 μ = some (r, F)) : dtW yL_law cL_law 4 (some .boolean) 49 (some (.int r)) F 1753 [some (.ref 1000000), some (.ref l1), some (.ref l2), some (.int l3)] [] μ := by
  rw [f_L_law_1753] at h
  refine dr_aload_n l1 dL_law_1753 rfl ?_
  refine dr_aload_n 1000000 dL_law_1754 rfl ?_
  refine dr_iload_n l3 dL_law_1755 rfl ?_
  refine dr_iconst (1 : Int32) dL_law_1756 (by decide) ?_
  refine dr_iadd dL_law_1757 ?_
  obtain ⟨x1, e2, h⟩ := dtBind h
  refine dr_sload x1 dL_law_1758 e2 ?_
  refine dr_aload_n 1000000 dL_law_1759 rfl ?_
  refine dr_iload_n l3 dL_law_1760 rfl ?_
  refine dr_iconst (2 : Int32) dL_law_1761 (by decide) ?_
  refine dr_iadd dL_law_1762 ?_
  obtain ⟨x3, e4, h⟩ := dtBind h
  refine dr_sload x3 dL_law_1763 e4 ?_
  obtain ⟨_, hb5, h⟩ := dtBind h
  obtain ⟨x8, μ6, e7, h⟩ := dtCall h
  refine dr_callV_i (S0 := []) [.int x1, .int x3] x8 μ6 dL_law_1764 (c_X11_apartSet l1 x1 x3 μ e7) mf_X11_apartSet wt_1188 wt_1189 wt_1187 rfl (dtRv hb5) (by decide) rfl (Nat.le_of_ble_eq_true rfl) (Nat.le_of_ble_eq_true rfl) rfl ?_
  refine dr_aload_n l2 dL_law_1767 rfl ?_
  refine dr_aload_n 1000000 dL_law_1768 rfl ?_
  refine dr_iload_n l3 dL_law_1769 rfl ?_
  refine dr_iconst (1 : Int32) dL_law_1770 (by decide) ?_
  refine dr_iadd dL_law_1771 ?_
  obtain ⟨x9, e10, h⟩ := dtBind h
  refine dr_sload x9 dL_law_1772 e10 ?_
  refine dr_aload_n 1000000 dL_law_1773 rfl ?_
  refine dr_iload_n l3 dL_law_1774 rfl ?_
  refine dr_iconst (2 : Int32) dL_law_1775 (by decide) ?_
  refine dr_iadd dL_law_1776 ?_
  obtain ⟨x11, e12, h⟩ := dtBind h
  refine dr_sload x11 dL_law_1777 e12 ?_
  obtain ⟨_, hb13, h⟩ := dtBind h
  obtain ⟨x16, μ14, e15, h⟩ := dtCall h
  refine dr_callV_i (S0 := [.int x8]) [.int x9, .int x11] x16 μ14 dL_law_1778 (c_X12_apartSet l2 x9 x11 μ6 e15) mf_X12_apartSet wt_1968 wt_1969 wt_1967 rfl (dtRv hb13) (by decide) rfl (Nat.le_of_ble_eq_true rfl) (Nat.le_of_ble_eq_true rfl) rfl ?_
  obtain ⟨ht18, hf19⟩ := dtIte h
  refine dr_icmp_eq 2079 dL_law_1781 (by decide) (fun hc17 => ?_) (fun hc17 => ?_)
  · have h := ht18 hc17
    exact c_L_law_2079 k18 hk18 l1 l2 l3 μ14 h
  · have h := hf19 hc17
    refine dr_iconst (0 : Int32) dL_law_1784 (by decide) ?_
    obtain ⟨hz, rfl, rfl⟩ := dtRet h
    exact dr_ireturn dL_law_1785 (dtNz hz)
set_option maxRecDepth 100000 in
theorem c_L_law_1786 {r : Int32} {F : dtM} (k18 : Nat → Nat → Int32 → dtM → Option (Int32 × dtM)) (hk18 : ∀ (l1 : Nat) (l2 : Nat) (l3 : Int32) (μ : dtM), k18 l1 l2 l3 μ = some (r, F) → dtW yL_law cL_law 4 (some .boolean) 49 (some (.int r)) F 18 [some (.ref 1000000), some (.ref l1), some (.ref l2), some (.int l3)] [] μ) (l1 : Nat) (l2 : Nat) (l3 : Int32) (μ : dtM) (h : f_L_law_1786 k18 l1 l2 l3 μ = some (r, F)) : dtW yL_law cL_law 4 (some .boolean) 49 (some (.int r)) F 1786 [some (.ref 1000000), some (.ref l1), some (.ref l2), some (.int l3)] [] μ := by
  rw [f_L_law_1786] at h
  refine dr_aload_n l1 dL_law_1786 rfl ?_
  refine dr_aload_n 1000000 dL_law_1787 rfl ?_
  refine dr_iload_n l3 dL_law_1788 rfl ?_
  refine dr_iconst (1 : Int32) dL_law_1789 (by decide) ?_
  refine dr_iadd dL_law_1790 ?_
  obtain ⟨x1, e2, h⟩ := dtBind h
  refine dr_sload x1 dL_law_1791 e2 ?_
  refine dr_aload_n 1000000 dL_law_1792 rfl ?_
  refine dr_iload_n l3 dL_law_1793 rfl ?_
  refine dr_iconst (2 : Int32) dL_law_1794 (by decide) ?_
  refine dr_iadd dL_law_1795 ?_
  obtain ⟨x3, e4, h⟩ := dtBind h
  refine dr_sload x3 dL_law_1796 e4 ?_
  obtain ⟨_, hb5, h⟩ := dtBind h
  obtain ⟨x8, μ6, e7, h⟩ := dtCall h
  refine dr_callV_i (S0 := []) [.int x1, .int x3] x8 μ6 dL_law_1797 (c_X11_together l1 x1 x3 μ e7) mf_X11_together wt_1192 wt_1193 wt_1191 rfl (dtRv hb5) (by decide) rfl (Nat.le_of_ble_eq_true rfl) (Nat.le_of_ble_eq_true rfl) rfl ?_
  refine dr_aload_n l2 dL_law_1800 rfl ?_
  refine dr_aload_n 1000000 dL_law_1801 rfl ?_
  refine dr_iload_n l3 dL_law_1802 rfl ?_
  refine dr_iconst (1 : Int32) dL_law_1803 (by decide) ?_
  refine dr_iadd dL_law_1804 ?_
  obtain ⟨x9, e10, h⟩ := dtBind h
  refine dr_sload x9 dL_law_1805 e10 ?_
  refine dr_aload_n 1000000 dL_law_1806 rfl ?_
  refine dr_iload_n l3 dL_law_1807 rfl ?_
  refine dr_iconst (2 : Int32) dL_law_1808 (by decide) ?_
  refine dr_iadd dL_law_1809 ?_
  obtain ⟨x11, e12, h⟩ := dtBind h
  refine dr_sload x11 dL_law_1810 e12 ?_
  obtain ⟨_, hb13, h⟩ := dtBind h
  obtain ⟨x16, μ14, e15, h⟩ := dtCall h
  refine dr_callV_i (S0 := [.int x8]) [.int x9, .int x11] x16 μ14 dL_law_1811 (c_X12_together l2 x9 x11 μ6 e15) mf_X12_together wt_1976 wt_1977 wt_1975 rfl (dtRv hb13) (by decide) rfl (Nat.le_of_ble_eq_true rfl) (Nat.le_of_ble_eq_true rfl) rfl ?_
  obtain ⟨ht18, hf19⟩ := dtIte h
  refine dr_icmp_eq 2079 dL_law_1814 (by decide) (fun hc17 => ?_) (fun hc17 => ?_)
  · have h := ht18 hc17
    exact c_L_law_2079 k18 hk18 l1 l2 l3 μ14 h
  · have h := hf19 hc17
    refine dr_iconst (0 : Int32) dL_law_1817 (by decide) ?_
    obtain ⟨hz, rfl, rfl⟩ := dtRet h
    exact dr_ireturn dL_law_1818 (dtNz hz)
set_option maxRecDepth 100000 in
theorem c_L_law_1819 {r : Int32} {F : dtM} (k18 : Nat → Nat → Int32 → dtM → Option (Int32 × dtM)) (hk18 : ∀ (l1 : Nat) (l2 : Nat) (l3 : Int32) (μ : dtM), k18 l1 l2 l3 μ = some (r, F) → dtW yL_law cL_law 4 (some .boolean) 49 (some (.int r)) F 18 [some (.ref 1000000), some (.ref l1), some (.ref l2), some (.int l3)] [] μ) (l1 : Nat) (l2 : Nat) (l3 : Int32) (μ : dtM) (h : f_L_law_1819 k18 l1 l2 l3 μ = some (r, F)) : dtW yL_law cL_law 4 (some .boolean) 49 (some (.int r)) F 1819 [some (.ref 1000000), some (.ref l1), some (.ref l2), some (.int l3)] [] μ := by
  rw [f_L_law_1819] at h
  refine dr_aload_n l1 dL_law_1819 rfl ?_
  refine dr_aload_n 1000000 dL_law_1820 rfl ?_
  refine dr_iload_n l3 dL_law_1821 rfl ?_
  refine dr_iconst (1 : Int32) dL_law_1822 (by decide) ?_
  refine dr_iadd dL_law_1823 ?_
  obtain ⟨x1, e2, h⟩ := dtBind h
  refine dr_sload x1 dL_law_1824 e2 ?_
  refine dr_aload_n 1000000 dL_law_1825 rfl ?_
  refine dr_iload_n l3 dL_law_1826 rfl ?_
  refine dr_iconst (2 : Int32) dL_law_1827 (by decide) ?_
  refine dr_iadd dL_law_1828 ?_
  obtain ⟨x3, e4, h⟩ := dtBind h
  refine dr_sload x3 dL_law_1829 e4 ?_
  obtain ⟨_, hb5, h⟩ := dtBind h
  obtain ⟨x8, μ6, e7, h⟩ := dtCall h
  refine dr_callV_i (S0 := []) [.int x1, .int x3] x8 μ6 dL_law_1830 (c_X11_culprits l1 x1 x3 μ e7) mf_X11_culprits wt_1199 wt_1200 wt_1198 rfl (dtRv hb5) (by decide) rfl (Nat.le_of_ble_eq_true rfl) (Nat.le_of_ble_eq_true rfl) rfl ?_
  refine dr_aload_n l2 dL_law_1833 rfl ?_
  refine dr_aload_n 1000000 dL_law_1834 rfl ?_
  refine dr_iload_n l3 dL_law_1835 rfl ?_
  refine dr_iconst (1 : Int32) dL_law_1836 (by decide) ?_
  refine dr_iadd dL_law_1837 ?_
  obtain ⟨x9, e10, h⟩ := dtBind h
  refine dr_sload x9 dL_law_1838 e10 ?_
  refine dr_aload_n 1000000 dL_law_1839 rfl ?_
  refine dr_iload_n l3 dL_law_1840 rfl ?_
  refine dr_iconst (2 : Int32) dL_law_1841 (by decide) ?_
  refine dr_iadd dL_law_1842 ?_
  obtain ⟨x11, e12, h⟩ := dtBind h
  refine dr_sload x11 dL_law_1843 e12 ?_
  obtain ⟨_, hb13, h⟩ := dtBind h
  obtain ⟨x16, μ14, e15, h⟩ := dtCall h
  refine dr_callV_i (S0 := [.int x8]) [.int x9, .int x11] x16 μ14 dL_law_1844 (c_X12_culprits l2 x9 x11 μ6 e15) mf_X12_culprits wt_1980 wt_1981 wt_1979 rfl (dtRv hb13) (by decide) rfl (Nat.le_of_ble_eq_true rfl) (Nat.le_of_ble_eq_true rfl) rfl ?_
  obtain ⟨ht18, hf19⟩ := dtIte h
  refine dr_icmp_eq 2079 dL_law_1847 (by decide) (fun hc17 => ?_) (fun hc17 => ?_)
  · have h := ht18 hc17
    exact c_L_law_2079 k18 hk18 l1 l2 l3 μ14 h
  · have h := hf19 hc17
    refine dr_iconst (0 : Int32) dL_law_1850 (by decide) ?_
    obtain ⟨hz, rfl, rfl⟩ := dtRet h
    exact dr_ireturn dL_law_1851 (dtNz hz)
set_option maxRecDepth 100000 in
theorem c_L_law_1852 {r : Int32} {F : dtM} (k18 : Nat → Nat → Int32 → dtM → Option (Int32 × dtM)) (hk18 : ∀ (l1 : Nat) (l2 : Nat) (l3 : Int32) (μ : dtM), k18 l1 l2 l3 μ = some (r, F) → dtW yL_law cL_law 4 (some .boolean) 49 (some (.int r)) F 18 [some (.ref 1000000), some (.ref l1), some (.ref l2), some (.int l3)] [] μ) (l1 : Nat) (l2 : Nat) (l3 : Int32) (μ : dtM) (h : f_L_law_1852 k18 l1 l2 l3 μ = some (r, F)) : dtW yL_law cL_law 4 (some .boolean) 49 (some (.int r)) F 1852 [some (.ref 1000000), some (.ref l1), some (.ref l2), some (.int l3)] [] μ := by
  rw [f_L_law_1852] at h
  refine dr_aload_n l1 dL_law_1852 rfl ?_
  refine dr_aload_n 1000000 dL_law_1853 rfl ?_
  refine dr_iload_n l3 dL_law_1854 rfl ?_
  refine dr_iconst (1 : Int32) dL_law_1855 (by decide) ?_
  refine dr_iadd dL_law_1856 ?_
  obtain ⟨x1, e2, h⟩ := dtBind h
  refine dr_sload x1 dL_law_1857 e2 ?_
  refine dr_aload_n 1000000 dL_law_1858 rfl ?_
  refine dr_iload_n l3 dL_law_1859 rfl ?_
  refine dr_iconst (2 : Int32) dL_law_1860 (by decide) ?_
  refine dr_iadd dL_law_1861 ?_
  obtain ⟨x3, e4, h⟩ := dtBind h
  refine dr_sload x3 dL_law_1862 e4 ?_
  obtain ⟨_, hb5, h⟩ := dtBind h
  obtain ⟨x8, μ6, e7, h⟩ := dtCall h
  refine dr_callV_i (S0 := []) [.int x1, .int x3] x8 μ6 dL_law_1863 (c_X11_game l1 x1 x3 μ e7) mf_X11_game wt_1211 wt_1212 wt_1210 rfl (dtRv hb5) (by decide) rfl (Nat.le_of_ble_eq_true rfl) (Nat.le_of_ble_eq_true rfl) rfl ?_
  refine dr_aload_n l2 dL_law_1866 rfl ?_
  refine dr_aload_n 1000000 dL_law_1867 rfl ?_
  refine dr_iload_n l3 dL_law_1868 rfl ?_
  refine dr_iconst (1 : Int32) dL_law_1869 (by decide) ?_
  refine dr_iadd dL_law_1870 ?_
  obtain ⟨x9, e10, h⟩ := dtBind h
  refine dr_sload x9 dL_law_1871 e10 ?_
  refine dr_aload_n 1000000 dL_law_1872 rfl ?_
  refine dr_iload_n l3 dL_law_1873 rfl ?_
  refine dr_iconst (2 : Int32) dL_law_1874 (by decide) ?_
  refine dr_iadd dL_law_1875 ?_
  obtain ⟨x11, e12, h⟩ := dtBind h
  refine dr_sload x11 dL_law_1876 e12 ?_
  obtain ⟨_, hb13, h⟩ := dtBind h
  obtain ⟨x16, μ14, e15, h⟩ := dtCall h
  refine dr_callV_i (S0 := [.int x8]) [.int x9, .int x11] x16 μ14 dL_law_1877 (c_X12_game l2 x9 x11 μ6 e15) mf_X12_game wt_1989 wt_1990 wt_1988 rfl (dtRv hb13) (by decide) rfl (Nat.le_of_ble_eq_true rfl) (Nat.le_of_ble_eq_true rfl) rfl ?_
  obtain ⟨ht18, hf19⟩ := dtIte h
  refine dr_icmp_eq 2079 dL_law_1880 (by decide) (fun hc17 => ?_) (fun hc17 => ?_)
  · have h := ht18 hc17
    exact c_L_law_2079 k18 hk18 l1 l2 l3 μ14 h
  · have h := hf19 hc17
    refine dr_iconst (0 : Int32) dL_law_1883 (by decide) ?_
    obtain ⟨hz, rfl, rfl⟩ := dtRet h
    exact dr_ireturn dL_law_1884 (dtNz hz)
set_option maxRecDepth 100000 in
theorem c_L_law_1885 {r : Int32} {F : dtM} (k18 : Nat → Nat → Int32 → dtM → Option (Int32 × dtM)) (hk18 : ∀ (l1 : Nat) (l2 : Nat) (l3 : Int32) (μ : dtM), k18 l1 l2 l3 μ = some (r, F) → dtW yL_law cL_law 4 (some .boolean) 49 (some (.int r)) F 18 [some (.ref 1000000), some (.ref l1), some (.ref l2), some (.int l3)] [] μ) (l1 : Nat) (l2 : Nat) (l3 : Int32) (μ : dtM) (h : f_L_law_1885 k18 l1 l2 l3 μ = some (r, F)) : dtW yL_law cL_law 4 (some .boolean) 49 (some (.int r)) F 1885 [some (.ref 1000000), some (.ref l1), some (.ref l2), some (.int l3)] [] μ := by
  rw [f_L_law_1885] at h
  refine dr_aload_n l1 dL_law_1885 rfl ?_
  refine dr_aload_n 1000000 dL_law_1886 rfl ?_
  refine dr_iload_n l3 dL_law_1887 rfl ?_
  refine dr_iconst (1 : Int32) dL_law_1888 (by decide) ?_
  refine dr_iadd dL_law_1889 ?_
  obtain ⟨x1, e2, h⟩ := dtBind h
  refine dr_sload x1 dL_law_1890 e2 ?_
  refine dr_aload_n 1000000 dL_law_1891 rfl ?_
  refine dr_iload_n l3 dL_law_1892 rfl ?_
  refine dr_iconst (2 : Int32) dL_law_1893 (by decide) ?_
  refine dr_iadd dL_law_1894 ?_
  obtain ⟨x3, e4, h⟩ := dtBind h
  refine dr_sload x3 dL_law_1895 e4 ?_
  obtain ⟨_, hb5, h⟩ := dtBind h
  obtain ⟨x8, μ6, e7, h⟩ := dtCall h
  refine dr_callV_i (S0 := []) [.int x1, .int x3] x8 μ6 dL_law_1896 (c_X11_moveOf l1 x1 x3 μ e7) mf_X11_moveOf wt_1233 wt_1234 wt_1232 rfl (dtRv hb5) (by decide) rfl (Nat.le_of_ble_eq_true rfl) (Nat.le_of_ble_eq_true rfl) rfl ?_
  refine dr_aload_n l2 dL_law_1899 rfl ?_
  refine dr_aload_n 1000000 dL_law_1900 rfl ?_
  refine dr_iload_n l3 dL_law_1901 rfl ?_
  refine dr_iconst (1 : Int32) dL_law_1902 (by decide) ?_
  refine dr_iadd dL_law_1903 ?_
  obtain ⟨x9, e10, h⟩ := dtBind h
  refine dr_sload x9 dL_law_1904 e10 ?_
  refine dr_aload_n 1000000 dL_law_1905 rfl ?_
  refine dr_iload_n l3 dL_law_1906 rfl ?_
  refine dr_iconst (2 : Int32) dL_law_1907 (by decide) ?_
  refine dr_iadd dL_law_1908 ?_
  obtain ⟨x11, e12, h⟩ := dtBind h
  refine dr_sload x11 dL_law_1909 e12 ?_
  obtain ⟨_, hb13, h⟩ := dtBind h
  obtain ⟨x16, μ14, e15, h⟩ := dtCall h
  refine dr_callV_i (S0 := [.int x8]) [.int x9, .int x11] x16 μ14 dL_law_1910 (c_X12_moveOf l2 x9 x11 μ6 e15) mf_X12_moveOf wt_2005 wt_2006 wt_2004 rfl (dtRv hb13) (by decide) rfl (Nat.le_of_ble_eq_true rfl) (Nat.le_of_ble_eq_true rfl) rfl ?_
  obtain ⟨ht18, hf19⟩ := dtIte h
  refine dr_icmp_eq 2079 dL_law_1913 (by decide) (fun hc17 => ?_) (fun hc17 => ?_)
  · have h := ht18 hc17
    exact c_L_law_2079 k18 hk18 l1 l2 l3 μ14 h
  · have h := hf19 hc17
    refine dr_iconst (0 : Int32) dL_law_1916 (by decide) ?_
    obtain ⟨hz, rfl, rfl⟩ := dtRet h
    exact dr_ireturn dL_law_1917 (dtNz hz)
set_option maxRecDepth 100000 in
theorem c_L_law_1918 {r : Int32} {F : dtM} (k18 : Nat → Nat → Int32 → dtM → Option (Int32 × dtM)) (hk18 : ∀ (l1 : Nat) (l2 : Nat) (l3 : Int32) (μ : dtM), k18 l1 l2 l3 μ = some (r, F) → dtW yL_law cL_law 4 (some .boolean) 49 (some (.int r)) F 18 [some (.ref 1000000), some (.ref l1), some (.ref l2), some (.int l3)] [] μ) (l1 : Nat) (l2 : Nat) (l3 : Int32) (μ : dtM) (h : f_L_law_1918 k18 l1 l2 l3 μ = some (r, F)) : dtW yL_law cL_law 4 (some .boolean) 49 (some (.int r)) F 1918 [some (.ref 1000000), some (.ref l1), some (.ref l2), some (.int l3)] [] μ := by
  rw [f_L_law_1918] at h
  refine dr_aload_n l1 dL_law_1918 rfl ?_
  refine dr_aload_n 1000000 dL_law_1919 rfl ?_
  refine dr_iload_n l3 dL_law_1920 rfl ?_
  refine dr_iconst (1 : Int32) dL_law_1921 (by decide) ?_
  refine dr_iadd dL_law_1922 ?_
  obtain ⟨x1, e2, h⟩ := dtBind h
  refine dr_sload x1 dL_law_1923 e2 ?_
  refine dr_aload_n 1000000 dL_law_1924 rfl ?_
  refine dr_iload_n l3 dL_law_1925 rfl ?_
  refine dr_iconst (2 : Int32) dL_law_1926 (by decide) ?_
  refine dr_iadd dL_law_1927 ?_
  obtain ⟨x3, e4, h⟩ := dtBind h
  refine dr_sload x3 dL_law_1928 e4 ?_
  obtain ⟨_, hb5, h⟩ := dtBind h
  obtain ⟨x8, μ6, e7, h⟩ := dtCall h
  refine dr_callV_i (S0 := []) [.int x1, .int x3] x8 μ6 dL_law_1929 (c_X11_gale l1 x1 x3 μ e7) mf_X11_gale wt_1242 wt_1243 wt_1241 rfl (dtRv hb5) (by decide) rfl (Nat.le_of_ble_eq_true rfl) (Nat.le_of_ble_eq_true rfl) rfl ?_
  refine dr_aload_n l2 dL_law_1932 rfl ?_
  refine dr_aload_n 1000000 dL_law_1933 rfl ?_
  refine dr_iload_n l3 dL_law_1934 rfl ?_
  refine dr_iconst (1 : Int32) dL_law_1935 (by decide) ?_
  refine dr_iadd dL_law_1936 ?_
  obtain ⟨x9, e10, h⟩ := dtBind h
  refine dr_sload x9 dL_law_1937 e10 ?_
  refine dr_aload_n 1000000 dL_law_1938 rfl ?_
  refine dr_iload_n l3 dL_law_1939 rfl ?_
  refine dr_iconst (2 : Int32) dL_law_1940 (by decide) ?_
  refine dr_iadd dL_law_1941 ?_
  obtain ⟨x11, e12, h⟩ := dtBind h
  refine dr_sload x11 dL_law_1942 e12 ?_
  obtain ⟨_, hb13, h⟩ := dtBind h
  obtain ⟨x16, μ14, e15, h⟩ := dtCall h
  refine dr_callV_i (S0 := [.int x8]) [.int x9, .int x11] x16 μ14 dL_law_1943 (c_X12_gale l2 x9 x11 μ6 e15) mf_X12_gale wt_2009 wt_2010 wt_2008 rfl (dtRv hb13) (by decide) rfl (Nat.le_of_ble_eq_true rfl) (Nat.le_of_ble_eq_true rfl) rfl ?_
  obtain ⟨ht18, hf19⟩ := dtIte h
  refine dr_icmp_eq 2079 dL_law_1946 (by decide) (fun hc17 => ?_) (fun hc17 => ?_)
  · have h := ht18 hc17
    exact c_L_law_2079 k18 hk18 l1 l2 l3 μ14 h
  · have h := hf19 hc17
    refine dr_iconst (0 : Int32) dL_law_1949 (by decide) ?_
    obtain ⟨hz, rfl, rfl⟩ := dtRet h
    exact dr_ireturn dL_law_1950 (dtNz hz)
set_option maxRecDepth 100000 in
theorem c_L_law_1951 {r : Int32} {F : dtM} (k18 : Nat → Nat → Int32 → dtM → Option (Int32 × dtM)) (hk18 : ∀ (l1 : Nat) (l2 : Nat) (l3 : Int32) (μ : dtM), k18 l1 l2 l3 μ = some (r, F) → dtW yL_law cL_law 4 (some .boolean) 49 (some (.int r)) F 18 [some (.ref 1000000), some (.ref l1), some (.ref l2), some (.int l3)] [] μ) (l1 : Nat) (l2 : Nat) (l3 : Int32) (μ : dtM) (h : f_L_law_1951 k18 l1 l2 l3 μ = some (r, F)) : dtW yL_law cL_law 4 (some .boolean) 49 (some (.int r)) F 1951 [some (.ref 1000000), some (.ref l1), some (.ref l2), some (.int l3)] [] μ := by
  rw [f_L_law_1951] at h
  refine dr_aload_n l1 dL_law_1951 rfl ?_
  refine dr_aload_n 1000000 dL_law_1952 rfl ?_
  refine dr_iload_n l3 dL_law_1953 rfl ?_
  refine dr_iconst (1 : Int32) dL_law_1954 (by decide) ?_
  refine dr_iadd dL_law_1955 ?_
  obtain ⟨x1, e2, h⟩ := dtBind h
  refine dr_sload x1 dL_law_1956 e2 ?_
  obtain ⟨_, hb3, h⟩ := dtBind h
  obtain ⟨x6, μ4, e5, h⟩ := dtCall h
  refine dr_callV_i (S0 := []) [.int x1] x6 μ4 dL_law_1957 (c_X11_copyRooms l1 x1 μ e5) mf_X11_copyRooms wt_1256 wt_1257 wt_1255 rfl (dtRv hb3) (by decide) rfl (Nat.le_of_ble_eq_true rfl) (Nat.le_of_ble_eq_true rfl) rfl ?_
  refine dr_aload_n l2 dL_law_1960 rfl ?_
  refine dr_aload_n 1000000 dL_law_1961 rfl ?_
  refine dr_iload_n l3 dL_law_1962 rfl ?_
  refine dr_iconst (1 : Int32) dL_law_1963 (by decide) ?_
  refine dr_iadd dL_law_1964 ?_
  obtain ⟨x7, e8, h⟩ := dtBind h
  refine dr_sload x7 dL_law_1965 e8 ?_
  obtain ⟨_, hb9, h⟩ := dtBind h
  obtain ⟨x12, μ10, e11, h⟩ := dtCall h
  refine dr_callV_i (S0 := [.int x6]) [.int x7] x12 μ10 dL_law_1966 (c_X12_copyRooms l2 x7 μ4 e11) mf_X12_copyRooms wt_2018 wt_2019 wt_2017 rfl (dtRv hb9) (by decide) rfl (Nat.le_of_ble_eq_true rfl) (Nat.le_of_ble_eq_true rfl) rfl ?_
  obtain ⟨ht14, hf15⟩ := dtIte h
  refine dr_icmp_eq 2079 dL_law_1969 (by decide) (fun hc13 => ?_) (fun hc13 => ?_)
  · have h := ht14 hc13
    exact c_L_law_2079 k18 hk18 l1 l2 l3 μ10 h
  · have h := hf15 hc13
    refine dr_iconst (0 : Int32) dL_law_1972 (by decide) ?_
    obtain ⟨hz, rfl, rfl⟩ := dtRet h
    exact dr_ireturn dL_law_1973 (dtNz hz)
set_option maxRecDepth 100000 in
theorem c_L_law_1974 {r : Int32} {F : dtM} (k18 : Nat → Nat → Int32 → dtM → Option (Int32 × dtM)) (hk18 : ∀ (l1 : Nat) (l2 : Nat) (l3 : Int32) (μ : dtM), k18 l1 l2 l3 μ = some (r, F) → dtW yL_law cL_law 4 (some .boolean) 49 (some (.int r)) F 18 [some (.ref 1000000), some (.ref l1), some (.ref l2), some (.int l3)] [] μ) (l1 : Nat) (l2 : Nat) (l3 : Int32) (μ : dtM) (h : f_L_law_1974 k18 l1 l2 l3 μ = some (r, F)) : dtW yL_law cL_law 4 (some .boolean) 49 (some (.int r)) F 1974 [some (.ref 1000000), some (.ref l1), some (.ref l2), some (.int l3)] [] μ := by
  rw [f_L_law_1974] at h
  refine dr_aload_n l1 dL_law_1974 rfl ?_
  refine dr_aload_n 1000000 dL_law_1975 rfl ?_
  refine dr_iload_n l3 dL_law_1976 rfl ?_
  refine dr_iconst (1 : Int32) dL_law_1977 (by decide) ?_
  refine dr_iadd dL_law_1978 ?_
  obtain ⟨x1, e2, h⟩ := dtBind h
  refine dr_sload x1 dL_law_1979 e2 ?_
  obtain ⟨_, hb3, h⟩ := dtBind h
  obtain ⟨x6, μ4, e5, h⟩ := dtCall h
  refine dr_callV_i (S0 := []) [.int x1] x6 μ4 dL_law_1980 (c_X11_live l1 x1 μ e5) mf_X11_live wt_1260 wt_1261 wt_1259 rfl (dtRv hb3) (by decide) rfl (Nat.le_of_ble_eq_true rfl) (Nat.le_of_ble_eq_true rfl) rfl ?_
  refine dr_aload_n l2 dL_law_1983 rfl ?_
  refine dr_aload_n 1000000 dL_law_1984 rfl ?_
  refine dr_iload_n l3 dL_law_1985 rfl ?_
  refine dr_iconst (1 : Int32) dL_law_1986 (by decide) ?_
  refine dr_iadd dL_law_1987 ?_
  obtain ⟨x7, e8, h⟩ := dtBind h
  refine dr_sload x7 dL_law_1988 e8 ?_
  obtain ⟨_, hb9, h⟩ := dtBind h
  obtain ⟨x12, μ10, e11, h⟩ := dtCall h
  refine dr_callV_i (S0 := [.int x6]) [.int x7] x12 μ10 dL_law_1989 (c_X12_live l2 x7 μ4 e11) mf_X12_live wt_2022 wt_2023 wt_2021 rfl (dtRv hb9) (by decide) rfl (Nat.le_of_ble_eq_true rfl) (Nat.le_of_ble_eq_true rfl) rfl ?_
  obtain ⟨ht14, hf15⟩ := dtIte h
  refine dr_icmp_eq 2079 dL_law_1992 (by decide) (fun hc13 => ?_) (fun hc13 => ?_)
  · have h := ht14 hc13
    exact c_L_law_2079 k18 hk18 l1 l2 l3 μ10 h
  · have h := hf15 hc13
    refine dr_iconst (0 : Int32) dL_law_1995 (by decide) ?_
    obtain ⟨hz, rfl, rfl⟩ := dtRet h
    exact dr_ireturn dL_law_1996 (dtNz hz)
set_option maxRecDepth 100000 in
theorem c_L_law_1997 {r : Int32} {F : dtM} (k18 : Nat → Nat → Int32 → dtM → Option (Int32 × dtM)) (hk18 : ∀ (l1 : Nat) (l2 : Nat) (l3 : Int32) (μ : dtM), k18 l1 l2 l3 μ = some (r, F) → dtW yL_law cL_law 4 (some .boolean) 49 (some (.int r)) F 18 [some (.ref 1000000), some (.ref l1), some (.ref l2), some (.int l3)] [] μ) (l1 : Nat) (l2 : Nat) (l3 : Int32) (μ : dtM) (h : f_L_law_1997 k18 l1 l2 l3 μ = some (r, F)) : dtW yL_law cL_law 4 (some .boolean) 49 (some (.int r)) F 1997 [some (.ref 1000000), some (.ref l1), some (.ref l2), some (.int l3)] [] μ := by
  rw [f_L_law_1997] at h
  refine dr_aload_n l1 dL_law_1997 rfl ?_
  refine dr_aload_n 1000000 dL_law_1998 rfl ?_
  refine dr_iload_n l3 dL_law_1999 rfl ?_
  refine dr_iconst (1 : Int32) dL_law_2000 (by decide) ?_
  refine dr_iadd dL_law_2001 ?_
  obtain ⟨x1, e2, h⟩ := dtBind h
  refine dr_sload x1 dL_law_2002 e2 ?_
  obtain ⟨_, hb3, h⟩ := dtBind h
  obtain ⟨x6, μ4, e5, h⟩ := dtCall h
  refine dr_callV_i (S0 := []) [.int x1] x6 μ4 dL_law_2003 (c_X11_lived l1 x1 μ e5) mf_X11_lived wt_1312 wt_1313 wt_1311 rfl (dtRv hb3) (by decide) rfl (Nat.le_of_ble_eq_true rfl) (Nat.le_of_ble_eq_true rfl) rfl ?_
  refine dr_aload_n l2 dL_law_2006 rfl ?_
  refine dr_aload_n 1000000 dL_law_2007 rfl ?_
  refine dr_iload_n l3 dL_law_2008 rfl ?_
  refine dr_iconst (1 : Int32) dL_law_2009 (by decide) ?_
  refine dr_iadd dL_law_2010 ?_
  obtain ⟨x7, e8, h⟩ := dtBind h
  refine dr_sload x7 dL_law_2011 e8 ?_
  obtain ⟨_, hb9, h⟩ := dtBind h
  obtain ⟨x12, μ10, e11, h⟩ := dtCall h
  refine dr_callV_i (S0 := [.int x6]) [.int x7] x12 μ10 dL_law_2012 (c_X12_lived l2 x7 μ4 e11) mf_X12_lived wt_2064 wt_2065 wt_2063 rfl (dtRv hb9) (by decide) rfl (Nat.le_of_ble_eq_true rfl) (Nat.le_of_ble_eq_true rfl) rfl ?_
  obtain ⟨ht14, hf15⟩ := dtIte h
  refine dr_icmp_eq 2079 dL_law_2015 (by decide) (fun hc13 => ?_) (fun hc13 => ?_)
  · have h := ht14 hc13
    exact c_L_law_2079 k18 hk18 l1 l2 l3 μ10 h
  · have h := hf15 hc13
    refine dr_iconst (0 : Int32) dL_law_2018 (by decide) ?_
    obtain ⟨hz, rfl, rfl⟩ := dtRet h
    exact dr_ireturn dL_law_2019 (dtNz hz)
set_option maxRecDepth 100000 in
theorem c_L_law_2020 {r : Int32} {F : dtM} (k18 : Nat → Nat → Int32 → dtM → Option (Int32 × dtM)) (hk18 : ∀ (l1 : Nat) (l2 : Nat) (l3 : Int32) (μ : dtM), k18 l1 l2 l3 μ = some (r, F) → dtW yL_law cL_law 4 (some .boolean) 49 (some (.int r)) F 18 [some (.ref 1000000), some (.ref l1), some (.ref l2), some (.int l3)] [] μ) (l1 : Nat) (l2 : Nat) (l3 : Int32) (μ : dtM) (h : f_L_law_2020 k18 l1 l2 l3 μ = some (r, F)) : dtW yL_law cL_law 4 (some .boolean) 49 (some (.int r)) F 2020 [some (.ref 1000000), some (.ref l1), some (.ref l2), some (.int l3)] [] μ := by
  rw [f_L_law_2020] at h
  refine dr_aload_n l1 dL_law_2020 rfl ?_
  refine dr_aload_n 1000000 dL_law_2021 rfl ?_
  refine dr_iload_n l3 dL_law_2022 rfl ?_
  refine dr_iconst (1 : Int32) dL_law_2023 (by decide) ?_
  refine dr_iadd dL_law_2024 ?_
  obtain ⟨x1, e2, h⟩ := dtBind h
  refine dr_sload x1 dL_law_2025 e2 ?_
  refine dr_aload_n 1000000 dL_law_2026 rfl ?_
  refine dr_iload_n l3 dL_law_2027 rfl ?_
  refine dr_iconst (2 : Int32) dL_law_2028 (by decide) ?_
  refine dr_iadd dL_law_2029 ?_
  obtain ⟨x3, e4, h⟩ := dtBind h
  refine dr_sload x3 dL_law_2030 e4 ?_
  obtain ⟨_, hb5, h⟩ := dtBind h
  obtain ⟨x8, μ6, e7, h⟩ := dtCall h
  refine dr_callV_i (S0 := []) [.int x1, .int x3] x8 μ6 dL_law_2031 (c_X11_mean l1 x1 x3 μ e7) mf_X11_mean wt_1316 wt_1317 wt_1315 rfl (dtRv hb5) (by decide) rfl (Nat.le_of_ble_eq_true rfl) (Nat.le_of_ble_eq_true rfl) rfl ?_
  refine dr_aload_n l2 dL_law_2034 rfl ?_
  refine dr_aload_n 1000000 dL_law_2035 rfl ?_
  refine dr_iload_n l3 dL_law_2036 rfl ?_
  refine dr_iconst (1 : Int32) dL_law_2037 (by decide) ?_
  refine dr_iadd dL_law_2038 ?_
  obtain ⟨x9, e10, h⟩ := dtBind h
  refine dr_sload x9 dL_law_2039 e10 ?_
  refine dr_aload_n 1000000 dL_law_2040 rfl ?_
  refine dr_iload_n l3 dL_law_2041 rfl ?_
  refine dr_iconst (2 : Int32) dL_law_2042 (by decide) ?_
  refine dr_iadd dL_law_2043 ?_
  obtain ⟨x11, e12, h⟩ := dtBind h
  refine dr_sload x11 dL_law_2044 e12 ?_
  obtain ⟨_, hb13, h⟩ := dtBind h
  obtain ⟨x16, μ14, e15, h⟩ := dtCall h
  refine dr_callV_i (S0 := [.int x8]) [.int x9, .int x11] x16 μ14 dL_law_2045 (c_X12_mean l2 x9 x11 μ6 e15) mf_X12_mean wt_2068 wt_2069 wt_2067 rfl (dtRv hb13) (by decide) rfl (Nat.le_of_ble_eq_true rfl) (Nat.le_of_ble_eq_true rfl) rfl ?_
  obtain ⟨ht18, hf19⟩ := dtIte h
  refine dr_icmp_eq 2079 dL_law_2048 (by decide) (fun hc17 => ?_) (fun hc17 => ?_)
  · have h := ht18 hc17
    exact c_L_law_2079 k18 hk18 l1 l2 l3 μ14 h
  · have h := hf19 hc17
    refine dr_iconst (0 : Int32) dL_law_2051 (by decide) ?_
    obtain ⟨hz, rfl, rfl⟩ := dtRet h
    exact dr_ireturn dL_law_2052 (dtNz hz)
set_option maxRecDepth 100000 in
theorem c_L_law_2053 {r : Int32} {F : dtM} (k18 : Nat → Nat → Int32 → dtM → Option (Int32 × dtM)) (hk18 : ∀ (l1 : Nat) (l2 : Nat) (l3 : Int32) (μ : dtM), k18 l1 l2 l3 μ = some (r, F) → dtW yL_law cL_law 4 (some .boolean) 49 (some (.int r)) F 18 [some (.ref 1000000), some (.ref l1), some (.ref l2), some (.int l3)] [] μ) (l1 : Nat) (l2 : Nat) (l3 : Int32) (μ : dtM) (h : f_L_law_2053 k18 l1 l2 l3 μ = some (r, F)) : dtW yL_law cL_law 4 (some .boolean) 49 (some (.int r)) F 2053 [some (.ref 1000000), some (.ref l1), some (.ref l2), some (.int l3)] [] μ := by
  rw [f_L_law_2053] at h
  refine dr_aload_n l1 dL_law_2053 rfl ?_
  obtain ⟨_, hb1, h⟩ := dtBind h
  obtain ⟨x4, μ2, e3, h⟩ := dtCall h
  refine dr_callV_i (S0 := []) [] x4 μ2 dL_law_2054 (c_X11_mark l1 μ e3) mf_X11_mark wt_1325 wt_1326 wt_1324 rfl (dtRv hb1) (by decide) rfl (Nat.le_of_ble_eq_true rfl) (Nat.le_of_ble_eq_true rfl) rfl ?_
  refine dr_aload_n l2 dL_law_2057 rfl ?_
  obtain ⟨_, hb5, h⟩ := dtBind h
  obtain ⟨x8, μ6, e7, h⟩ := dtCall h
  refine dr_callV_i (S0 := [.int x4]) [] x8 μ6 dL_law_2058 (c_X12_mark l2 μ2 e7) mf_X12_mark wt_2073 wt_2074 wt_2072 rfl (dtRv hb5) (by decide) rfl (Nat.le_of_ble_eq_true rfl) (Nat.le_of_ble_eq_true rfl) rfl ?_
  obtain ⟨ht10, hf11⟩ := dtIte h
  refine dr_icmp_eq 2079 dL_law_2061 (by decide) (fun hc9 => ?_) (fun hc9 => ?_)
  · have h := ht10 hc9
    exact c_L_law_2079 k18 hk18 l1 l2 l3 μ6 h
  · have h := hf11 hc9
    refine dr_iconst (0 : Int32) dL_law_2064 (by decide) ?_
    obtain ⟨hz, rfl, rfl⟩ := dtRet h
    exact dr_ireturn dL_law_2065 (dtNz hz)
set_option maxRecDepth 100000 in
theorem c_L_law_2066 {r : Int32} {F : dtM} (k18 : Nat → Nat → Int32 → dtM → Option (Int32 × dtM)) (hk18 : ∀ (l1 : Nat) (l2 : Nat) (l3 : Int32) (μ : dtM), k18 l1 l2 l3 μ = some (r, F) → dtW yL_law cL_law 4 (some .boolean) 49 (some (.int r)) F 18 [some (.ref 1000000), some (.ref l1), some (.ref l2), some (.int l3)] [] μ) (l1 : Nat) (l2 : Nat) (l3 : Int32) (μ : dtM) (h : f_L_law_2066 k18 l1 l2 l3 μ = some (r, F)) : dtW yL_law cL_law 4 (some .boolean) 49 (some (.int r)) F 2066 [some (.ref 1000000), some (.ref l1), some (.ref l2), some (.int l3)] [] μ := by
  rw [f_L_law_2066] at h
  refine dr_aload_n l1 dL_law_2066 rfl ?_
  obtain ⟨_, hb1, h⟩ := dtBind h
  obtain ⟨x4, μ2, e3, h⟩ := dtCall h
  refine dr_callV_i (S0 := []) [] x4 μ2 dL_law_2067 (c_X11_undo l1 μ e3) mf_X11_undo wt_1334 wt_1335 wt_1333 rfl (dtRv hb1) (by decide) rfl (Nat.le_of_ble_eq_true rfl) (Nat.le_of_ble_eq_true rfl) rfl ?_
  refine dr_aload_n l2 dL_law_2070 rfl ?_
  obtain ⟨_, hb5, h⟩ := dtBind h
  obtain ⟨x8, μ6, e7, h⟩ := dtCall h
  refine dr_callV_i (S0 := [.int x4]) [] x8 μ6 dL_law_2071 (c_X12_undo l2 μ2 e7) mf_X12_undo wt_2081 wt_2082 wt_2080 rfl (dtRv hb5) (by decide) rfl (Nat.le_of_ble_eq_true rfl) (Nat.le_of_ble_eq_true rfl) rfl ?_
  obtain ⟨ht10, hf11⟩ := dtIte h
  refine dr_icmp_eq 2079 dL_law_2074 (by decide) (fun hc9 => ?_) (fun hc9 => ?_)
  · have h := ht10 hc9
    exact c_L_law_2079 k18 hk18 l1 l2 l3 μ6 h
  · have h := hf11 hc9
    refine dr_iconst (0 : Int32) dL_law_2077 (by decide) ?_
    obtain ⟨hz, rfl, rfl⟩ := dtRet h
    exact dr_ireturn dL_law_2078 (dtNz hz)
set_option maxRecDepth 100000 in
theorem c_L_law_18 {r : Int32} {F : dtM} : ∀ (n : Nat) (l1 : Nat) (l2 : Nat) (l3 : Int32) (μ : dtM), f_L_law_18 n l1 l2 l3 μ = some (r, F) → dtW yL_law cL_law 4 (some .boolean) 49 (some (.int r)) F 18 [some (.ref 1000000), some (.ref l1), some (.ref l2), some (.int l3)] [] μ := by
  intro n
  induction n with
  | zero => intro l1 l2 l3 μ h; cases h
  | succ n ih =>
    intro l1 l2 l3 μ h
    have h := (show f_L_law_18 (n + 1) l1 l2 l3 μ = some _ from h)
    rw [f_L_law_18] at h
    refine dr_iload_n l3 dL_law_18 rfl ?_
    refine dr_aload_n 1000000 dL_law_19 rfl ?_
    refine dr_slen dL_law_20 ?_
    refine dr_bipush (6 : Int32) dL_law_21 (by decide) ?_
    refine dr_isub dL_law_23 ?_
    obtain ⟨ht2, hf3⟩ := dtIte h
    refine dr_icmp_gt 2085 dL_law_24 (by decide) (fun hc1 => ?_) (fun hc1 => ?_)
    · have h := ht2 hc1
      refine dr_iconst (1 : Int32) dL_law_2085 (by decide) ?_
      obtain ⟨hz, rfl, rfl⟩ := dtRet h
      exact dr_ireturn dL_law_2086 (dtNz hz)
    · have h := hf3 hc1
      refine dr_aload_n 1000000 dL_law_27 rfl ?_
      refine dr_iload_n l3 dL_law_28 rfl ?_
      obtain ⟨x4, e5, h⟩ := dtBind h
      refine dr_sload x4 dL_law_29 e5 ?_
      refine dr_bipush (63 : Int32) dL_law_30 (by decide) ?_
      refine dr_iand dL_law_32 ?_
      obtain ⟨ht6, h⟩ := dtIte h
      refine Decidable.byCases (dec := inferInstance) (fun hc8 : (x4 &&& (63 : Int32)) = 0 => ?_) (fun hc8 => ?_)
      · have h := ht6 hc8
        refine dr_tableIn (off := 239) 272 dL_law_33 (by rw [hc8]; decide) (by rw [hc8]; decide) (by rw [hc8]; rfl) (by decide) ?_
        exact c_L_law_272 (f_L_law_18 n) ih l1 l2 l3 μ h
      have h := h hc8
      obtain ⟨ht9, h⟩ := dtIte h
      refine Decidable.byCases (dec := inferInstance) (fun hc11 : (x4 &&& (63 : Int32)) = 1 => ?_) (fun hc11 => ?_)
      · have h := ht9 hc11
        refine dr_tableIn (off := 252) 285 dL_law_33 (by rw [hc11]; decide) (by rw [hc11]; decide) (by rw [hc11]; rfl) (by decide) ?_
        exact c_L_law_285 (f_L_law_18 n) ih l1 l2 l3 μ h
      have h := h hc11
      obtain ⟨ht12, h⟩ := dtIte h
      refine Decidable.byCases (dec := inferInstance) (fun hc14 : (x4 &&& (63 : Int32)) = 2 => ?_) (fun hc14 => ?_)
      · have h := ht12 hc14
        refine dr_tableIn (off := 266) 299 dL_law_33 (by rw [hc14]; decide) (by rw [hc14]; decide) (by rw [hc14]; rfl) (by decide) ?_
        exact c_L_law_299 (f_L_law_18 n) ih l1 l2 l3 μ h
      have h := h hc14
      obtain ⟨ht15, h⟩ := dtIte h
      refine Decidable.byCases (dec := inferInstance) (fun hc17 : (x4 &&& (63 : Int32)) = 3 => ?_) (fun hc17 => ?_)
      · have h := ht15 hc17
        refine dr_tableIn (off := 280) 313 dL_law_33 (by rw [hc17]; decide) (by rw [hc17]; decide) (by rw [hc17]; rfl) (by decide) ?_
        exact c_L_law_313 (f_L_law_18 n) ih l1 l2 l3 μ h
      have h := h hc17
      obtain ⟨ht18, h⟩ := dtIte h
      refine Decidable.byCases (dec := inferInstance) (fun hc20 : (x4 &&& (63 : Int32)) = 4 => ?_) (fun hc20 => ?_)
      · have h := ht18 hc20
        refine dr_tableIn (off := 323) 356 dL_law_33 (by rw [hc20]; decide) (by rw [hc20]; decide) (by rw [hc20]; rfl) (by decide) ?_
        exact c_L_law_356 (f_L_law_18 n) ih l1 l2 l3 μ h
      have h := h hc20
      obtain ⟨ht21, h⟩ := dtIte h
      refine Decidable.byCases (dec := inferInstance) (fun hc23 : (x4 &&& (63 : Int32)) = 5 => ?_) (fun hc23 => ?_)
      · have h := ht21 hc23
        refine dr_tableIn (off := 396) 429 dL_law_33 (by rw [hc23]; decide) (by rw [hc23]; decide) (by rw [hc23]; rfl) (by decide) ?_
        exact c_L_law_429 (f_L_law_18 n) ih l1 l2 l3 μ h
      have h := h hc23
      obtain ⟨ht24, h⟩ := dtIte h
      refine Decidable.byCases (dec := inferInstance) (fun hc26 : (x4 &&& (63 : Int32)) = 6 => ?_) (fun hc26 => ?_)
      · have h := ht24 hc26
        refine dr_tableIn (off := 430) 463 dL_law_33 (by rw [hc26]; decide) (by rw [hc26]; decide) (by rw [hc26]; rfl) (by decide) ?_
        exact c_L_law_463 (f_L_law_18 n) ih l1 l2 l3 μ h
      have h := h hc26
      obtain ⟨ht27, h⟩ := dtIte h
      refine Decidable.byCases (dec := inferInstance) (fun hc29 : (x4 &&& (63 : Int32)) = 7 => ?_) (fun hc29 => ?_)
      · have h := ht27 hc29
        refine dr_tableIn (off := 493) 526 dL_law_33 (by rw [hc29]; decide) (by rw [hc29]; decide) (by rw [hc29]; rfl) (by decide) ?_
        exact c_L_law_526 (f_L_law_18 n) ih l1 l2 l3 μ h
      have h := h hc29
      obtain ⟨ht30, h⟩ := dtIte h
      refine Decidable.byCases (dec := inferInstance) (fun hc32 : (x4 &&& (63 : Int32)) = 8 => ?_) (fun hc32 => ?_)
      · have h := ht30 hc32
        refine dr_tableIn (off := 556) 589 dL_law_33 (by rw [hc32]; decide) (by rw [hc32]; decide) (by rw [hc32]; rfl) (by decide) ?_
        exact c_L_law_589 (f_L_law_18 n) ih l1 l2 l3 μ h
      have h := h hc32
      obtain ⟨ht33, h⟩ := dtIte h
      refine Decidable.byCases (dec := inferInstance) (fun hc35 : (x4 &&& (63 : Int32)) = 9 => ?_) (fun hc35 => ?_)
      · have h := ht33 hc35
        refine dr_tableIn (off := 579) 612 dL_law_33 (by rw [hc35]; decide) (by rw [hc35]; decide) (by rw [hc35]; rfl) (by decide) ?_
        exact c_L_law_612 (f_L_law_18 n) ih l1 l2 l3 μ h
      have h := h hc35
      obtain ⟨ht36, h⟩ := dtIte h
      refine Decidable.byCases (dec := inferInstance) (fun hc38 : (x4 &&& (63 : Int32)) = 10 => ?_) (fun hc38 => ?_)
      · have h := ht36 hc38
        refine dr_tableIn (off := 602) 635 dL_law_33 (by rw [hc38]; decide) (by rw [hc38]; decide) (by rw [hc38]; rfl) (by decide) ?_
        exact c_L_law_635 (f_L_law_18 n) ih l1 l2 l3 μ h
      have h := h hc38
      obtain ⟨ht39, h⟩ := dtIte h
      refine Decidable.byCases (dec := inferInstance) (fun hc41 : (x4 &&& (63 : Int32)) = 11 => ?_) (fun hc41 => ?_)
      · have h := ht39 hc41
        refine dr_tableIn (off := 625) 658 dL_law_33 (by rw [hc41]; decide) (by rw [hc41]; decide) (by rw [hc41]; rfl) (by decide) ?_
        exact c_L_law_658 (f_L_law_18 n) ih l1 l2 l3 μ h
      have h := h hc41
      obtain ⟨ht42, h⟩ := dtIte h
      refine Decidable.byCases (dec := inferInstance) (fun hc44 : (x4 &&& (63 : Int32)) = 12 => ?_) (fun hc44 => ?_)
      · have h := ht42 hc44
        refine dr_tableIn (off := 648) 681 dL_law_33 (by rw [hc44]; decide) (by rw [hc44]; decide) (by rw [hc44]; rfl) (by decide) ?_
        exact c_L_law_681 (f_L_law_18 n) ih l1 l2 l3 μ h
      have h := h hc44
      obtain ⟨ht45, h⟩ := dtIte h
      refine Decidable.byCases (dec := inferInstance) (fun hc47 : (x4 &&& (63 : Int32)) = 13 => ?_) (fun hc47 => ?_)
      · have h := ht45 hc47
        refine dr_tableIn (off := 681) 714 dL_law_33 (by rw [hc47]; decide) (by rw [hc47]; decide) (by rw [hc47]; rfl) (by decide) ?_
        exact c_L_law_714 (f_L_law_18 n) ih l1 l2 l3 μ h
      have h := h hc47
      obtain ⟨ht48, h⟩ := dtIte h
      refine Decidable.byCases (dec := inferInstance) (fun hc50 : (x4 &&& (63 : Int32)) = 14 => ?_) (fun hc50 => ?_)
      · have h := ht48 hc50
        refine dr_tableIn (off := 704) 737 dL_law_33 (by rw [hc50]; decide) (by rw [hc50]; decide) (by rw [hc50]; rfl) (by decide) ?_
        exact c_L_law_737 (f_L_law_18 n) ih l1 l2 l3 μ h
      have h := h hc50
      obtain ⟨ht51, h⟩ := dtIte h
      refine Decidable.byCases (dec := inferInstance) (fun hc53 : (x4 &&& (63 : Int32)) = 15 => ?_) (fun hc53 => ?_)
      · have h := ht51 hc53
        refine dr_tableIn (off := 737) 770 dL_law_33 (by rw [hc53]; decide) (by rw [hc53]; decide) (by rw [hc53]; rfl) (by decide) ?_
        exact c_L_law_770 (f_L_law_18 n) ih l1 l2 l3 μ h
      have h := h hc53
      obtain ⟨ht54, h⟩ := dtIte h
      refine Decidable.byCases (dec := inferInstance) (fun hc56 : (x4 &&& (63 : Int32)) = 16 => ?_) (fun hc56 => ?_)
      · have h := ht54 hc56
        refine dr_tableIn (off := 770) 803 dL_law_33 (by rw [hc56]; decide) (by rw [hc56]; decide) (by rw [hc56]; rfl) (by decide) ?_
        exact c_L_law_803 (f_L_law_18 n) ih l1 l2 l3 μ h
      have h := h hc56
      obtain ⟨ht57, h⟩ := dtIte h
      refine Decidable.byCases (dec := inferInstance) (fun hc59 : (x4 &&& (63 : Int32)) = 17 => ?_) (fun hc59 => ?_)
      · have h := ht57 hc59
        refine dr_tableIn (off := 803) 836 dL_law_33 (by rw [hc59]; decide) (by rw [hc59]; decide) (by rw [hc59]; rfl) (by decide) ?_
        exact c_L_law_836 (f_L_law_18 n) ih l1 l2 l3 μ h
      have h := h hc59
      obtain ⟨ht60, h⟩ := dtIte h
      refine Decidable.byCases (dec := inferInstance) (fun hc62 : (x4 &&& (63 : Int32)) = 18 => ?_) (fun hc62 => ?_)
      · have h := ht60 hc62
        refine dr_tableIn (off := 846) 879 dL_law_33 (by rw [hc62]; decide) (by rw [hc62]; decide) (by rw [hc62]; rfl) (by decide) ?_
        exact c_L_law_879 (f_L_law_18 n) ih l1 l2 l3 μ h
      have h := h hc62
      obtain ⟨ht63, h⟩ := dtIte h
      refine Decidable.byCases (dec := inferInstance) (fun hc65 : (x4 &&& (63 : Int32)) = 19 => ?_) (fun hc65 => ?_)
      · have h := ht63 hc65
        refine dr_tableIn (off := 879) 912 dL_law_33 (by rw [hc65]; decide) (by rw [hc65]; decide) (by rw [hc65]; rfl) (by decide) ?_
        exact c_L_law_912 (f_L_law_18 n) ih l1 l2 l3 μ h
      have h := h hc65
      obtain ⟨ht66, h⟩ := dtIte h
      refine Decidable.byCases (dec := inferInstance) (fun hc68 : (x4 &&& (63 : Int32)) = 20 => ?_) (fun hc68 => ?_)
      · have h := ht66 hc68
        refine dr_tableIn (off := 912) 945 dL_law_33 (by rw [hc68]; decide) (by rw [hc68]; decide) (by rw [hc68]; rfl) (by decide) ?_
        exact c_L_law_945 (f_L_law_18 n) ih l1 l2 l3 μ h
      have h := h hc68
      obtain ⟨ht69, h⟩ := dtIte h
      refine Decidable.byCases (dec := inferInstance) (fun hc71 : (x4 &&& (63 : Int32)) = 21 => ?_) (fun hc71 => ?_)
      · have h := ht69 hc71
        refine dr_tableIn (off := 935) 968 dL_law_33 (by rw [hc71]; decide) (by rw [hc71]; decide) (by rw [hc71]; rfl) (by decide) ?_
        exact c_L_law_968 (f_L_law_18 n) ih l1 l2 l3 μ h
      have h := h hc71
      obtain ⟨ht72, h⟩ := dtIte h
      refine Decidable.byCases (dec := inferInstance) (fun hc74 : (x4 &&& (63 : Int32)) = 22 => ?_) (fun hc74 => ?_)
      · have h := ht72 hc74
        refine dr_tableIn (off := 994) 1027 dL_law_33 (by rw [hc74]; decide) (by rw [hc74]; decide) (by rw [hc74]; rfl) (by decide) ?_
        exact c_L_law_1027 (f_L_law_18 n) ih l1 l2 l3 μ h
      have h := h hc74
      obtain ⟨ht75, h⟩ := dtIte h
      refine Decidable.byCases (dec := inferInstance) (fun hc77 : (x4 &&& (63 : Int32)) = 23 => ?_) (fun hc77 => ?_)
      · have h := ht75 hc77
        refine dr_tableIn (off := 1027) 1060 dL_law_33 (by rw [hc77]; decide) (by rw [hc77]; decide) (by rw [hc77]; rfl) (by decide) ?_
        exact c_L_law_1060 (f_L_law_18 n) ih l1 l2 l3 μ h
      have h := h hc77
      obtain ⟨ht78, h⟩ := dtIte h
      refine Decidable.byCases (dec := inferInstance) (fun hc80 : (x4 &&& (63 : Int32)) = 24 => ?_) (fun hc80 => ?_)
      · have h := ht78 hc80
        refine dr_tableIn (off := 1050) 1083 dL_law_33 (by rw [hc80]; decide) (by rw [hc80]; decide) (by rw [hc80]; rfl) (by decide) ?_
        exact c_L_law_1083 (f_L_law_18 n) ih l1 l2 l3 μ h
      have h := h hc80
      obtain ⟨ht81, h⟩ := dtIte h
      refine Decidable.byCases (dec := inferInstance) (fun hc83 : (x4 &&& (63 : Int32)) = 25 => ?_) (fun hc83 => ?_)
      · have h := ht81 hc83
        refine dr_tableIn (off := 1083) 1116 dL_law_33 (by rw [hc83]; decide) (by rw [hc83]; decide) (by rw [hc83]; rfl) (by decide) ?_
        exact c_L_law_1116 (f_L_law_18 n) ih l1 l2 l3 μ h
      have h := h hc83
      obtain ⟨ht84, h⟩ := dtIte h
      refine Decidable.byCases (dec := inferInstance) (fun hc86 : (x4 &&& (63 : Int32)) = 26 => ?_) (fun hc86 => ?_)
      · have h := ht84 hc86
        refine dr_tableIn (off := 1116) 1149 dL_law_33 (by rw [hc86]; decide) (by rw [hc86]; decide) (by rw [hc86]; rfl) (by decide) ?_
        exact c_L_law_1149 (f_L_law_18 n) ih l1 l2 l3 μ h
      have h := h hc86
      obtain ⟨ht87, h⟩ := dtIte h
      refine Decidable.byCases (dec := inferInstance) (fun hc89 : (x4 &&& (63 : Int32)) = 27 => ?_) (fun hc89 => ?_)
      · have h := ht87 hc89
        refine dr_tableIn (off := 1139) 1172 dL_law_33 (by rw [hc89]; decide) (by rw [hc89]; decide) (by rw [hc89]; rfl) (by decide) ?_
        exact c_L_law_1172 (f_L_law_18 n) ih l1 l2 l3 μ h
      have h := h hc89
      obtain ⟨ht90, h⟩ := dtIte h
      refine Decidable.byCases (dec := inferInstance) (fun hc92 : (x4 &&& (63 : Int32)) = 28 => ?_) (fun hc92 => ?_)
      · have h := ht90 hc92
        refine dr_tableIn (off := 1172) 1205 dL_law_33 (by rw [hc92]; decide) (by rw [hc92]; decide) (by rw [hc92]; rfl) (by decide) ?_
        exact c_L_law_1205 (f_L_law_18 n) ih l1 l2 l3 μ h
      have h := h hc92
      obtain ⟨ht93, h⟩ := dtIte h
      refine Decidable.byCases (dec := inferInstance) (fun hc95 : (x4 &&& (63 : Int32)) = 29 => ?_) (fun hc95 => ?_)
      · have h := ht93 hc95
        refine dr_tableIn (off := 1205) 1238 dL_law_33 (by rw [hc95]; decide) (by rw [hc95]; decide) (by rw [hc95]; rfl) (by decide) ?_
        exact c_L_law_1238 (f_L_law_18 n) ih l1 l2 l3 μ h
      have h := h hc95
      obtain ⟨ht96, h⟩ := dtIte h
      refine Decidable.byCases (dec := inferInstance) (fun hc98 : (x4 &&& (63 : Int32)) = 30 => ?_) (fun hc98 => ?_)
      · have h := ht96 hc98
        refine dr_tableIn (off := 1238) 1271 dL_law_33 (by rw [hc98]; decide) (by rw [hc98]; decide) (by rw [hc98]; rfl) (by decide) ?_
        exact c_L_law_1271 (f_L_law_18 n) ih l1 l2 l3 μ h
      have h := h hc98
      obtain ⟨ht99, h⟩ := dtIte h
      refine Decidable.byCases (dec := inferInstance) (fun hc101 : (x4 &&& (63 : Int32)) = 31 => ?_) (fun hc101 => ?_)
      · have h := ht99 hc101
        refine dr_tableIn (off := 1281) 1314 dL_law_33 (by rw [hc101]; decide) (by rw [hc101]; decide) (by rw [hc101]; rfl) (by decide) ?_
        exact c_L_law_1314 (f_L_law_18 n) ih l1 l2 l3 μ h
      have h := h hc101
      obtain ⟨ht102, h⟩ := dtIte h
      refine Decidable.byCases (dec := inferInstance) (fun hc104 : (x4 &&& (63 : Int32)) = 32 => ?_) (fun hc104 => ?_)
      · have h := ht102 hc104
        refine dr_tableIn (off := 1334) 1367 dL_law_33 (by rw [hc104]; decide) (by rw [hc104]; decide) (by rw [hc104]; rfl) (by decide) ?_
        exact c_L_law_1367 (f_L_law_18 n) ih l1 l2 l3 μ h
      have h := h hc104
      obtain ⟨ht105, h⟩ := dtIte h
      refine Decidable.byCases (dec := inferInstance) (fun hc107 : (x4 &&& (63 : Int32)) = 33 => ?_) (fun hc107 => ?_)
      · have h := ht105 hc107
        refine dr_tableIn (off := 1357) 1390 dL_law_33 (by rw [hc107]; decide) (by rw [hc107]; decide) (by rw [hc107]; rfl) (by decide) ?_
        exact c_L_law_1390 (f_L_law_18 n) ih l1 l2 l3 μ h
      have h := h hc107
      obtain ⟨ht108, h⟩ := dtIte h
      refine Decidable.byCases (dec := inferInstance) (fun hc110 : (x4 &&& (63 : Int32)) = 34 => ?_) (fun hc110 => ?_)
      · have h := ht108 hc110
        refine dr_tableIn (off := 1380) 1413 dL_law_33 (by rw [hc110]; decide) (by rw [hc110]; decide) (by rw [hc110]; rfl) (by decide) ?_
        exact c_L_law_1413 (f_L_law_18 n) ih l1 l2 l3 μ h
      have h := h hc110
      obtain ⟨ht111, h⟩ := dtIte h
      refine Decidable.byCases (dec := inferInstance) (fun hc113 : (x4 &&& (63 : Int32)) = 35 => ?_) (fun hc113 => ?_)
      · have h := ht111 hc113
        refine dr_tableIn (off := 1413) 1446 dL_law_33 (by rw [hc113]; decide) (by rw [hc113]; decide) (by rw [hc113]; rfl) (by decide) ?_
        exact c_L_law_1446 (f_L_law_18 n) ih l1 l2 l3 μ h
      have h := h hc113
      obtain ⟨ht114, h⟩ := dtIte h
      refine Decidable.byCases (dec := inferInstance) (fun hc116 : (x4 &&& (63 : Int32)) = 36 => ?_) (fun hc116 => ?_)
      · have h := ht114 hc116
        refine dr_tableIn (off := 1456) 1489 dL_law_33 (by rw [hc116]; decide) (by rw [hc116]; decide) (by rw [hc116]; rfl) (by decide) ?_
        exact c_L_law_1489 (f_L_law_18 n) ih l1 l2 l3 μ h
      have h := h hc116
      obtain ⟨ht117, h⟩ := dtIte h
      refine Decidable.byCases (dec := inferInstance) (fun hc119 : (x4 &&& (63 : Int32)) = 37 => ?_) (fun hc119 => ?_)
      · have h := ht117 hc119
        refine dr_tableIn (off := 1499) 1532 dL_law_33 (by rw [hc119]; decide) (by rw [hc119]; decide) (by rw [hc119]; rfl) (by decide) ?_
        exact c_L_law_1532 (f_L_law_18 n) ih l1 l2 l3 μ h
      have h := h hc119
      obtain ⟨ht120, h⟩ := dtIte h
      refine Decidable.byCases (dec := inferInstance) (fun hc122 : (x4 &&& (63 : Int32)) = 38 => ?_) (fun hc122 => ?_)
      · have h := ht120 hc122
        refine dr_tableIn (off := 1522) 1555 dL_law_33 (by rw [hc122]; decide) (by rw [hc122]; decide) (by rw [hc122]; rfl) (by decide) ?_
        exact c_L_law_1555 (f_L_law_18 n) ih l1 l2 l3 μ h
      have h := h hc122
      obtain ⟨ht123, h⟩ := dtIte h
      refine Decidable.byCases (dec := inferInstance) (fun hc125 : (x4 &&& (63 : Int32)) = 39 => ?_) (fun hc125 => ?_)
      · have h := ht123 hc125
        refine dr_tableIn (off := 1555) 1588 dL_law_33 (by rw [hc125]; decide) (by rw [hc125]; decide) (by rw [hc125]; rfl) (by decide) ?_
        exact c_L_law_1588 (f_L_law_18 n) ih l1 l2 l3 μ h
      have h := h hc125
      obtain ⟨ht126, h⟩ := dtIte h
      refine Decidable.byCases (dec := inferInstance) (fun hc128 : (x4 &&& (63 : Int32)) = 40 => ?_) (fun hc128 => ?_)
      · have h := ht126 hc128
        refine dr_tableIn (off := 1588) 1621 dL_law_33 (by rw [hc128]; decide) (by rw [hc128]; decide) (by rw [hc128]; rfl) (by decide) ?_
        exact c_L_law_1621 (f_L_law_18 n) ih l1 l2 l3 μ h
      have h := h hc128
      obtain ⟨ht129, h⟩ := dtIte h
      refine Decidable.byCases (dec := inferInstance) (fun hc131 : (x4 &&& (63 : Int32)) = 41 => ?_) (fun hc131 => ?_)
      · have h := ht129 hc131
        refine dr_tableIn (off := 1621) 1654 dL_law_33 (by rw [hc131]; decide) (by rw [hc131]; decide) (by rw [hc131]; rfl) (by decide) ?_
        exact c_L_law_1654 (f_L_law_18 n) ih l1 l2 l3 μ h
      have h := h hc131
      obtain ⟨ht132, h⟩ := dtIte h
      refine Decidable.byCases (dec := inferInstance) (fun hc134 : (x4 &&& (63 : Int32)) = 42 => ?_) (fun hc134 => ?_)
      · have h := ht132 hc134
        refine dr_tableIn (off := 1664) 1697 dL_law_33 (by rw [hc134]; decide) (by rw [hc134]; decide) (by rw [hc134]; rfl) (by decide) ?_
        exact c_L_law_1697 (f_L_law_18 n) ih l1 l2 l3 μ h
      have h := h hc134
      obtain ⟨ht135, h⟩ := dtIte h
      refine Decidable.byCases (dec := inferInstance) (fun hc137 : (x4 &&& (63 : Int32)) = 43 => ?_) (fun hc137 => ?_)
      · have h := ht135 hc137
        refine dr_tableIn (off := 1687) 1720 dL_law_33 (by rw [hc137]; decide) (by rw [hc137]; decide) (by rw [hc137]; rfl) (by decide) ?_
        exact c_L_law_1720 (f_L_law_18 n) ih l1 l2 l3 μ h
      have h := h hc137
      obtain ⟨ht138, h⟩ := dtIte h
      refine Decidable.byCases (dec := inferInstance) (fun hc140 : (x4 &&& (63 : Int32)) = 44 => ?_) (fun hc140 => ?_)
      · have h := ht138 hc140
        refine dr_tableIn (off := 1720) 1753 dL_law_33 (by rw [hc140]; decide) (by rw [hc140]; decide) (by rw [hc140]; rfl) (by decide) ?_
        exact c_L_law_1753 (f_L_law_18 n) ih l1 l2 l3 μ h
      have h := h hc140
      obtain ⟨ht141, h⟩ := dtIte h
      refine Decidable.byCases (dec := inferInstance) (fun hc143 : (x4 &&& (63 : Int32)) = 45 => ?_) (fun hc143 => ?_)
      · have h := ht141 hc143
        refine dr_tableIn (off := 1753) 1786 dL_law_33 (by rw [hc143]; decide) (by rw [hc143]; decide) (by rw [hc143]; rfl) (by decide) ?_
        exact c_L_law_1786 (f_L_law_18 n) ih l1 l2 l3 μ h
      have h := h hc143
      obtain ⟨ht144, h⟩ := dtIte h
      refine Decidable.byCases (dec := inferInstance) (fun hc146 : (x4 &&& (63 : Int32)) = 46 => ?_) (fun hc146 => ?_)
      · have h := ht144 hc146
        refine dr_tableIn (off := 1786) 1819 dL_law_33 (by rw [hc146]; decide) (by rw [hc146]; decide) (by rw [hc146]; rfl) (by decide) ?_
        exact c_L_law_1819 (f_L_law_18 n) ih l1 l2 l3 μ h
      have h := h hc146
      obtain ⟨ht147, h⟩ := dtIte h
      refine Decidable.byCases (dec := inferInstance) (fun hc149 : (x4 &&& (63 : Int32)) = 47 => ?_) (fun hc149 => ?_)
      · have h := ht147 hc149
        refine dr_tableIn (off := 1819) 1852 dL_law_33 (by rw [hc149]; decide) (by rw [hc149]; decide) (by rw [hc149]; rfl) (by decide) ?_
        exact c_L_law_1852 (f_L_law_18 n) ih l1 l2 l3 μ h
      have h := h hc149
      obtain ⟨ht150, h⟩ := dtIte h
      refine Decidable.byCases (dec := inferInstance) (fun hc152 : (x4 &&& (63 : Int32)) = 48 => ?_) (fun hc152 => ?_)
      · have h := ht150 hc152
        refine dr_tableIn (off := 1852) 1885 dL_law_33 (by rw [hc152]; decide) (by rw [hc152]; decide) (by rw [hc152]; rfl) (by decide) ?_
        exact c_L_law_1885 (f_L_law_18 n) ih l1 l2 l3 μ h
      have h := h hc152
      obtain ⟨ht153, h⟩ := dtIte h
      refine Decidable.byCases (dec := inferInstance) (fun hc155 : (x4 &&& (63 : Int32)) = 49 => ?_) (fun hc155 => ?_)
      · have h := ht153 hc155
        refine dr_tableIn (off := 1885) 1918 dL_law_33 (by rw [hc155]; decide) (by rw [hc155]; decide) (by rw [hc155]; rfl) (by decide) ?_
        exact c_L_law_1918 (f_L_law_18 n) ih l1 l2 l3 μ h
      have h := h hc155
      obtain ⟨ht156, h⟩ := dtIte h
      refine Decidable.byCases (dec := inferInstance) (fun hc158 : (x4 &&& (63 : Int32)) = 50 => ?_) (fun hc158 => ?_)
      · have h := ht156 hc158
        refine dr_tableIn (off := 1918) 1951 dL_law_33 (by rw [hc158]; decide) (by rw [hc158]; decide) (by rw [hc158]; rfl) (by decide) ?_
        exact c_L_law_1951 (f_L_law_18 n) ih l1 l2 l3 μ h
      have h := h hc158
      obtain ⟨ht159, h⟩ := dtIte h
      refine Decidable.byCases (dec := inferInstance) (fun hc161 : (x4 &&& (63 : Int32)) = 51 => ?_) (fun hc161 => ?_)
      · have h := ht159 hc161
        refine dr_tableIn (off := 1941) 1974 dL_law_33 (by rw [hc161]; decide) (by rw [hc161]; decide) (by rw [hc161]; rfl) (by decide) ?_
        exact c_L_law_1974 (f_L_law_18 n) ih l1 l2 l3 μ h
      have h := h hc161
      obtain ⟨ht162, h⟩ := dtIte h
      refine Decidable.byCases (dec := inferInstance) (fun hc164 : (x4 &&& (63 : Int32)) = 52 => ?_) (fun hc164 => ?_)
      · have h := ht162 hc164
        refine dr_tableIn (off := 1964) 1997 dL_law_33 (by rw [hc164]; decide) (by rw [hc164]; decide) (by rw [hc164]; rfl) (by decide) ?_
        exact c_L_law_1997 (f_L_law_18 n) ih l1 l2 l3 μ h
      have h := h hc164
      obtain ⟨ht165, h⟩ := dtIte h
      refine Decidable.byCases (dec := inferInstance) (fun hc167 : (x4 &&& (63 : Int32)) = 53 => ?_) (fun hc167 => ?_)
      · have h := ht165 hc167
        refine dr_tableIn (off := 1987) 2020 dL_law_33 (by rw [hc167]; decide) (by rw [hc167]; decide) (by rw [hc167]; rfl) (by decide) ?_
        exact c_L_law_2020 (f_L_law_18 n) ih l1 l2 l3 μ h
      have h := h hc167
      obtain ⟨ht168, h⟩ := dtIte h
      refine Decidable.byCases (dec := inferInstance) (fun hc170 : (x4 &&& (63 : Int32)) = 54 => ?_) (fun hc170 => ?_)
      · have h := ht168 hc170
        refine dr_tableIn (off := 2020) 2053 dL_law_33 (by rw [hc170]; decide) (by rw [hc170]; decide) (by rw [hc170]; rfl) (by decide) ?_
        exact c_L_law_2053 (f_L_law_18 n) ih l1 l2 l3 μ h
      have h := h hc170
      obtain ⟨ht171, h⟩ := dtIte h
      refine Decidable.byCases (dec := inferInstance) (fun hc173 : (x4 &&& (63 : Int32)) = 55 => ?_) (fun hc173 => ?_)
      · have h := ht171 hc173
        refine dr_tableIn (off := 2033) 2066 dL_law_33 (by rw [hc173]; decide) (by rw [hc173]; decide) (by rw [hc173]; rfl) (by decide) ?_
        exact c_L_law_2066 (f_L_law_18 n) ih l1 l2 l3 μ h
      have h := h hc173
      have kd174 : dtW yL_law cL_law 4 (some .boolean) 49 (some (.int r)) F 2079 [some (.ref 1000000), some (.ref l1), some (.ref l2), some (.int l3)] [] μ := by
        exact c_L_law_2079 (f_L_law_18 n) ih l1 l2 l3 μ h
      refine Decidable.byCases (dec := inferInstance) (fun hlo : ((x4 &&& (63 : Int32))).toInt < 0 ∨ 55 < ((x4 &&& (63 : Int32))).toInt => dr_tableOut 2079 dL_law_33 hlo (by decide) kd174) (fun hlo => ?_)
      obtain ⟨hl1, hl2⟩ := not_or.mp hlo
      have hv : ((x4 &&& (63 : Int32))).toInt = 0 ∨ ((x4 &&& (63 : Int32))).toInt = 1 ∨ ((x4 &&& (63 : Int32))).toInt = 2 ∨ ((x4 &&& (63 : Int32))).toInt = 3 ∨ ((x4 &&& (63 : Int32))).toInt = 4 ∨ ((x4 &&& (63 : Int32))).toInt = 5 ∨ ((x4 &&& (63 : Int32))).toInt = 6 ∨ ((x4 &&& (63 : Int32))).toInt = 7 ∨ ((x4 &&& (63 : Int32))).toInt = 8 ∨ ((x4 &&& (63 : Int32))).toInt = 9 ∨ ((x4 &&& (63 : Int32))).toInt = 10 ∨ ((x4 &&& (63 : Int32))).toInt = 11 ∨ ((x4 &&& (63 : Int32))).toInt = 12 ∨ ((x4 &&& (63 : Int32))).toInt = 13 ∨ ((x4 &&& (63 : Int32))).toInt = 14 ∨ ((x4 &&& (63 : Int32))).toInt = 15 ∨ ((x4 &&& (63 : Int32))).toInt = 16 ∨ ((x4 &&& (63 : Int32))).toInt = 17 ∨ ((x4 &&& (63 : Int32))).toInt = 18 ∨ ((x4 &&& (63 : Int32))).toInt = 19 ∨ ((x4 &&& (63 : Int32))).toInt = 20 ∨ ((x4 &&& (63 : Int32))).toInt = 21 ∨ ((x4 &&& (63 : Int32))).toInt = 22 ∨ ((x4 &&& (63 : Int32))).toInt = 23 ∨ ((x4 &&& (63 : Int32))).toInt = 24 ∨ ((x4 &&& (63 : Int32))).toInt = 25 ∨ ((x4 &&& (63 : Int32))).toInt = 26 ∨ ((x4 &&& (63 : Int32))).toInt = 27 ∨ ((x4 &&& (63 : Int32))).toInt = 28 ∨ ((x4 &&& (63 : Int32))).toInt = 29 ∨ ((x4 &&& (63 : Int32))).toInt = 30 ∨ ((x4 &&& (63 : Int32))).toInt = 31 ∨ ((x4 &&& (63 : Int32))).toInt = 32 ∨ ((x4 &&& (63 : Int32))).toInt = 33 ∨ ((x4 &&& (63 : Int32))).toInt = 34 ∨ ((x4 &&& (63 : Int32))).toInt = 35 ∨ ((x4 &&& (63 : Int32))).toInt = 36 ∨ ((x4 &&& (63 : Int32))).toInt = 37 ∨ ((x4 &&& (63 : Int32))).toInt = 38 ∨ ((x4 &&& (63 : Int32))).toInt = 39 ∨ ((x4 &&& (63 : Int32))).toInt = 40 ∨ ((x4 &&& (63 : Int32))).toInt = 41 ∨ ((x4 &&& (63 : Int32))).toInt = 42 ∨ ((x4 &&& (63 : Int32))).toInt = 43 ∨ ((x4 &&& (63 : Int32))).toInt = 44 ∨ ((x4 &&& (63 : Int32))).toInt = 45 ∨ ((x4 &&& (63 : Int32))).toInt = 46 ∨ ((x4 &&& (63 : Int32))).toInt = 47 ∨ ((x4 &&& (63 : Int32))).toInt = 48 ∨ ((x4 &&& (63 : Int32))).toInt = 49 ∨ ((x4 &&& (63 : Int32))).toInt = 50 ∨ ((x4 &&& (63 : Int32))).toInt = 51 ∨ ((x4 &&& (63 : Int32))).toInt = 52 ∨ ((x4 &&& (63 : Int32))).toInt = 53 ∨ ((x4 &&& (63 : Int32))).toInt = 54 ∨ ((x4 &&& (63 : Int32))).toInt = 55 := by omega
      rcases hv with hv | hv | hv | hv | hv | hv | hv | hv | hv | hv | hv | hv | hv | hv | hv | hv | hv | hv | hv | hv | hv | hv | hv | hv | hv | hv | hv | hv | hv | hv | hv | hv | hv | hv | hv | hv | hv | hv | hv | hv | hv | hv | hv | hv | hv | hv | hv | hv | hv | hv | hv | hv | hv | hv | hv | hv
      · exact absurd (Int32.toInt_inj.mp (hv.trans (show (0 : Int) = (0 : Int32).toInt by decide))) hc8
      · exact absurd (Int32.toInt_inj.mp (hv.trans (show (1 : Int) = (1 : Int32).toInt by decide))) hc11
      · exact absurd (Int32.toInt_inj.mp (hv.trans (show (2 : Int) = (2 : Int32).toInt by decide))) hc14
      · exact absurd (Int32.toInt_inj.mp (hv.trans (show (3 : Int) = (3 : Int32).toInt by decide))) hc17
      · exact absurd (Int32.toInt_inj.mp (hv.trans (show (4 : Int) = (4 : Int32).toInt by decide))) hc20
      · exact absurd (Int32.toInt_inj.mp (hv.trans (show (5 : Int) = (5 : Int32).toInt by decide))) hc23
      · exact absurd (Int32.toInt_inj.mp (hv.trans (show (6 : Int) = (6 : Int32).toInt by decide))) hc26
      · exact absurd (Int32.toInt_inj.mp (hv.trans (show (7 : Int) = (7 : Int32).toInt by decide))) hc29
      · exact absurd (Int32.toInt_inj.mp (hv.trans (show (8 : Int) = (8 : Int32).toInt by decide))) hc32
      · exact absurd (Int32.toInt_inj.mp (hv.trans (show (9 : Int) = (9 : Int32).toInt by decide))) hc35
      · exact absurd (Int32.toInt_inj.mp (hv.trans (show (10 : Int) = (10 : Int32).toInt by decide))) hc38
      · exact absurd (Int32.toInt_inj.mp (hv.trans (show (11 : Int) = (11 : Int32).toInt by decide))) hc41
      · exact absurd (Int32.toInt_inj.mp (hv.trans (show (12 : Int) = (12 : Int32).toInt by decide))) hc44
      · exact absurd (Int32.toInt_inj.mp (hv.trans (show (13 : Int) = (13 : Int32).toInt by decide))) hc47
      · exact absurd (Int32.toInt_inj.mp (hv.trans (show (14 : Int) = (14 : Int32).toInt by decide))) hc50
      · exact absurd (Int32.toInt_inj.mp (hv.trans (show (15 : Int) = (15 : Int32).toInt by decide))) hc53
      · exact absurd (Int32.toInt_inj.mp (hv.trans (show (16 : Int) = (16 : Int32).toInt by decide))) hc56
      · exact absurd (Int32.toInt_inj.mp (hv.trans (show (17 : Int) = (17 : Int32).toInt by decide))) hc59
      · exact absurd (Int32.toInt_inj.mp (hv.trans (show (18 : Int) = (18 : Int32).toInt by decide))) hc62
      · exact absurd (Int32.toInt_inj.mp (hv.trans (show (19 : Int) = (19 : Int32).toInt by decide))) hc65
      · exact absurd (Int32.toInt_inj.mp (hv.trans (show (20 : Int) = (20 : Int32).toInt by decide))) hc68
      · exact absurd (Int32.toInt_inj.mp (hv.trans (show (21 : Int) = (21 : Int32).toInt by decide))) hc71
      · exact absurd (Int32.toInt_inj.mp (hv.trans (show (22 : Int) = (22 : Int32).toInt by decide))) hc74
      · exact absurd (Int32.toInt_inj.mp (hv.trans (show (23 : Int) = (23 : Int32).toInt by decide))) hc77
      · exact absurd (Int32.toInt_inj.mp (hv.trans (show (24 : Int) = (24 : Int32).toInt by decide))) hc80
      · exact absurd (Int32.toInt_inj.mp (hv.trans (show (25 : Int) = (25 : Int32).toInt by decide))) hc83
      · exact absurd (Int32.toInt_inj.mp (hv.trans (show (26 : Int) = (26 : Int32).toInt by decide))) hc86
      · exact absurd (Int32.toInt_inj.mp (hv.trans (show (27 : Int) = (27 : Int32).toInt by decide))) hc89
      · exact absurd (Int32.toInt_inj.mp (hv.trans (show (28 : Int) = (28 : Int32).toInt by decide))) hc92
      · exact absurd (Int32.toInt_inj.mp (hv.trans (show (29 : Int) = (29 : Int32).toInt by decide))) hc95
      · exact absurd (Int32.toInt_inj.mp (hv.trans (show (30 : Int) = (30 : Int32).toInt by decide))) hc98
      · exact absurd (Int32.toInt_inj.mp (hv.trans (show (31 : Int) = (31 : Int32).toInt by decide))) hc101
      · exact absurd (Int32.toInt_inj.mp (hv.trans (show (32 : Int) = (32 : Int32).toInt by decide))) hc104
      · exact absurd (Int32.toInt_inj.mp (hv.trans (show (33 : Int) = (33 : Int32).toInt by decide))) hc107
      · exact absurd (Int32.toInt_inj.mp (hv.trans (show (34 : Int) = (34 : Int32).toInt by decide))) hc110
      · exact absurd (Int32.toInt_inj.mp (hv.trans (show (35 : Int) = (35 : Int32).toInt by decide))) hc113
      · exact absurd (Int32.toInt_inj.mp (hv.trans (show (36 : Int) = (36 : Int32).toInt by decide))) hc116
      · exact absurd (Int32.toInt_inj.mp (hv.trans (show (37 : Int) = (37 : Int32).toInt by decide))) hc119
      · exact absurd (Int32.toInt_inj.mp (hv.trans (show (38 : Int) = (38 : Int32).toInt by decide))) hc122
      · exact absurd (Int32.toInt_inj.mp (hv.trans (show (39 : Int) = (39 : Int32).toInt by decide))) hc125
      · exact absurd (Int32.toInt_inj.mp (hv.trans (show (40 : Int) = (40 : Int32).toInt by decide))) hc128
      · exact absurd (Int32.toInt_inj.mp (hv.trans (show (41 : Int) = (41 : Int32).toInt by decide))) hc131
      · exact absurd (Int32.toInt_inj.mp (hv.trans (show (42 : Int) = (42 : Int32).toInt by decide))) hc134
      · exact absurd (Int32.toInt_inj.mp (hv.trans (show (43 : Int) = (43 : Int32).toInt by decide))) hc137
      · exact absurd (Int32.toInt_inj.mp (hv.trans (show (44 : Int) = (44 : Int32).toInt by decide))) hc140
      · exact absurd (Int32.toInt_inj.mp (hv.trans (show (45 : Int) = (45 : Int32).toInt by decide))) hc143
      · exact absurd (Int32.toInt_inj.mp (hv.trans (show (46 : Int) = (46 : Int32).toInt by decide))) hc146
      · exact absurd (Int32.toInt_inj.mp (hv.trans (show (47 : Int) = (47 : Int32).toInt by decide))) hc149
      · exact absurd (Int32.toInt_inj.mp (hv.trans (show (48 : Int) = (48 : Int32).toInt by decide))) hc152
      · exact absurd (Int32.toInt_inj.mp (hv.trans (show (49 : Int) = (49 : Int32).toInt by decide))) hc155
      · exact absurd (Int32.toInt_inj.mp (hv.trans (show (50 : Int) = (50 : Int32).toInt by decide))) hc158
      · exact absurd (Int32.toInt_inj.mp (hv.trans (show (51 : Int) = (51 : Int32).toInt by decide))) hc161
      · exact absurd (Int32.toInt_inj.mp (hv.trans (show (52 : Int) = (52 : Int32).toInt by decide))) hc164
      · exact absurd (Int32.toInt_inj.mp (hv.trans (show (53 : Int) = (53 : Int32).toInt by decide))) hc167
      · exact absurd (Int32.toInt_inj.mp (hv.trans (show (54 : Int) = (54 : Int32).toInt by decide))) hc170
      · exact absurd (Int32.toInt_inj.mp (hv.trans (show (55 : Int) = (55 : Int32).toInt by decide))) hc173
set_option maxRecDepth 100000 in
theorem c_L_law {r : Int32} {F : dtM}  (μ : dtM) (h : f_L_law  μ = some (r, F)) : dtW yL_law cL_law 4 (some .boolean) 49 (some (.int r)) F 0 [some (.ref 1000000)] [] μ := by
  rw [f_L_law] at h
  obtain ⟨q1, μ2, e3, h⟩ := dtCall h
  refine dr_new (ci := 11) q1 μ2 dL_law_0 wt_21 wt_22 wt_1 (by decide) e3 ?_
  refine dr_dup dL_law_3 rfl ?_
  obtain ⟨_, hb4, h⟩ := dtBind h
  obtain ⟨μ5, e6, h⟩ := dtBind h
  refine dr_callI (S0 := [.ref q1]) μ5 [] dL_law_4 (c_X11_init q1 μ2 e6) mf_X11_init rfl wt_24 wt_23 rfl (dtLt hb4) (Nat.le_of_ble_eq_true rfl) rfl rfl ?_
  refine dr_astore_n 1 [some (.ref 1000000), some (.ref q1)] dL_law_7 rfl rfl rfl rfl ?_
  obtain ⟨q7, μ8, e9, h⟩ := dtCall h
  refine dr_new (ci := 12) q7 μ8 dL_law_8 wt_1337 wt_1338 wt_13 (by decide) e9 ?_
  refine dr_dup dL_law_11 rfl ?_
  obtain ⟨_, hb10, h⟩ := dtBind h
  obtain ⟨μ11, e12, h⟩ := dtBind h
  refine dr_callI (S0 := [.ref q7]) μ11 [] dL_law_12 (c_X12_init q7 μ8 e12) mf_X12_init rfl wt_1340 wt_1339 rfl (dtLt hb10) (Nat.le_of_ble_eq_true rfl) rfl rfl ?_
  refine dr_astore_n 2 [some (.ref 1000000), some (.ref q1), some (.ref q7)] dL_law_15 rfl rfl rfl rfl ?_
  refine dr_iconst (0 : Int32) dL_law_16 (by decide) ?_
  refine dr_istore_n 3 [some (.ref 1000000), some (.ref q1), some (.ref q7), some (.int (0 : Int32))] dL_law_17 rfl rfl rfl rfl ?_
  exact c_L_law_18 dtFuel q1 q7 (0 : Int32) μ11 h
