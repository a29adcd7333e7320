theorem d_law_0 : decode b_law 0 = .ok (.new 7, 3) := by decide +kernel
theorem d_law_3 : decode b_law 3 = .ok (.dup, 1) := by decide +kernel
theorem d_law_4 : decode b_law 4 = .ok (.invokespecial 9, 3) := by decide +kernel
theorem d_law_7 : decode b_law 7 = .ok (.astore_n 1, 1) := by decide +kernel
theorem d_law_8 : decode b_law 8 = .ok (.new 10, 3) := by decide +kernel
theorem d_law_11 : decode b_law 11 = .ok (.dup, 1) := by decide +kernel
theorem d_law_12 : decode b_law 12 = .ok (.invokespecial 12, 3) := by decide +kernel
theorem d_law_15 : decode b_law 15 = .ok (.astore_n 2, 1) := by decide +kernel
theorem d_law_16 : decode b_law 16 = .ok (.iconst 0, 1) := by decide +kernel
theorem d_law_17 : decode b_law 17 = .ok (.istore_n 3, 1) := by decide +kernel
theorem d_law_18 : decode b_law 18 = .ok (.iload_n 3, 1) := by decide +kernel
theorem d_law_19 : decode b_law 19 = .ok (.aload_n 0, 1) := by decide +kernel
theorem d_law_20 : decode b_law 20 = .ok (.arraylength, 1) := by decide +kernel
theorem d_law_21 : decode b_law 21 = .ok (.iconst 5, 1) := by decide +kernel
theorem d_law_22 : decode b_law 22 = .ok (.isub, 1) := by decide +kernel
theorem d_law_23 : decode b_law 23 = .ok (.if_icmp .gt 1708, 3) := by decide +kernel
theorem d_law_26 : decode b_law 26 = .ok (.aload_n 0, 1) := by decide +kernel
theorem d_law_27 : decode b_law 27 = .ok (.iload_n 3, 1) := by decide +kernel
theorem d_law_28 : decode b_law 28 = .ok (.iaload, 1) := by decide +kernel
theorem d_law_29 : decode b_law 29 = .ok (.bipush 63, 2) := by decide +kernel
theorem d_law_31 : decode b_law 31 = .ok (.iand, 1) := by decide +kernel
theorem d_law_32 : decode b_law 32 = .ok (.tableswitch 1693 0 51 #[224, 257, 270, 329, 352, 375, 398, 421, 454, 487, 500, 559, 582, 605, 628, 651, 684, 717, 740, 763, 786, 819, 852, 885, 918, 961, 994, 1027, 1060, 1093, 1116, 1159, 1182, 1205, 1228, 1251, 1274, 1297, 1320, 1333, 1376, 1429, 1482, 1515, 1528, 1551, 1574, 1597, 1620, 1643, 1666, 1679], 224) := by decide +kernel
theorem d_law_256 : decode b_law 256 = .ok (.aload_n 1, 1) := by decide +kernel
theorem d_law_257 : decode b_law 257 = .ok (.aload_n 0, 1) := by decide +kernel
theorem d_law_258 : decode b_law 258 = .ok (.iload_n 3, 1) := by decide +kernel
theorem d_law_259 : decode b_law 259 = .ok (.iconst 1, 1) := by decide +kernel
theorem d_law_260 : decode b_law 260 = .ok (.iadd, 1) := by decide +kernel
theorem d_law_261 : decode b_law 261 = .ok (.iaload, 1) := by decide +kernel
theorem d_law_262 : decode b_law 262 = .ok (.aload_n 0, 1) := by decide +kernel
theorem d_law_263 : decode b_law 263 = .ok (.iload_n 3, 1) := by decide +kernel
theorem d_law_264 : decode b_law 264 = .ok (.iconst 2, 1) := by decide +kernel
theorem d_law_265 : decode b_law 265 = .ok (.iadd, 1) := by decide +kernel
theorem d_law_266 : decode b_law 266 = .ok (.iaload, 1) := by decide +kernel
theorem d_law_267 : decode b_law 267 = .ok (.invokevirtual 13, 3) := by decide +kernel
theorem d_law_270 : decode b_law 270 = .ok (.aload_n 2, 1) := by decide +kernel
theorem d_law_271 : decode b_law 271 = .ok (.aload_n 0, 1) := by decide +kernel
theorem d_law_272 : decode b_law 272 = .ok (.iload_n 3, 1) := by decide +kernel
theorem d_law_273 : decode b_law 273 = .ok (.iconst 1, 1) := by decide +kernel
theorem d_law_274 : decode b_law 274 = .ok (.iadd, 1) := by decide +kernel
theorem d_law_275 : decode b_law 275 = .ok (.iaload, 1) := by decide +kernel
theorem d_law_276 : decode b_law 276 = .ok (.aload_n 0, 1) := by decide +kernel
theorem d_law_277 : decode b_law 277 = .ok (.iload_n 3, 1) := by decide +kernel
theorem d_law_278 : decode b_law 278 = .ok (.iconst 2, 1) := by decide +kernel
theorem d_law_279 : decode b_law 279 = .ok (.iadd, 1) := by decide +kernel
theorem d_law_280 : decode b_law 280 = .ok (.iaload, 1) := by decide +kernel
theorem d_law_281 : decode b_law 281 = .ok (.invokevirtual 17, 3) := by decide +kernel
theorem d_law_284 : decode b_law 284 = .ok (.if_icmp .eq 1441, 3) := by decide +kernel
theorem d_law_287 : decode b_law 287 = .ok (.iconst 0, 1) := by decide +kernel
theorem d_law_288 : decode b_law 288 = .ok (.ireturn, 1) := by decide +kernel
theorem d_law_289 : decode b_law 289 = .ok (.aload_n 1, 1) := by decide +kernel
theorem d_law_290 : decode b_law 290 = .ok (.invokevirtual 18, 3) := by decide +kernel
theorem d_law_293 : decode b_law 293 = .ok (.aload_n 2, 1) := by decide +kernel
theorem d_law_294 : decode b_law 294 = .ok (.invokevirtual 22, 3) := by decide +kernel
theorem d_law_297 : decode b_law 297 = .ok (.if_icmp .eq 1428, 3) := by decide +kernel
theorem d_law_300 : decode b_law 300 = .ok (.iconst 0, 1) := by decide +kernel
theorem d_law_301 : decode b_law 301 = .ok (.ireturn, 1) := by decide +kernel
theorem d_law_302 : decode b_law 302 = .ok (.aload_n 1, 1) := by decide +kernel
theorem d_law_303 : decode b_law 303 = .ok (.aload_n 0, 1) := by decide +kernel
theorem d_law_304 : decode b_law 304 = .ok (.iload_n 3, 1) := by decide +kernel
theorem d_law_305 : decode b_law 305 = .ok (.iconst 1, 1) := by decide +kernel
theorem d_law_306 : decode b_law 306 = .ok (.iadd, 1) := by decide +kernel
theorem d_law_307 : decode b_law 307 = .ok (.iaload, 1) := by decide +kernel
theorem d_law_308 : decode b_law 308 = .ok (.aload_n 0, 1) := by decide +kernel
theorem d_law_309 : decode b_law 309 = .ok (.iload_n 3, 1) := by decide +kernel
theorem d_law_310 : decode b_law 310 = .ok (.iconst 2, 1) := by decide +kernel
theorem d_law_311 : decode b_law 311 = .ok (.iadd, 1) := by decide +kernel
theorem d_law_312 : decode b_law 312 = .ok (.iaload, 1) := by decide +kernel
theorem d_law_313 : decode b_law 313 = .ok (.aload_n 0, 1) := by decide +kernel
theorem d_law_314 : decode b_law 314 = .ok (.iload_n 3, 1) := by decide +kernel
theorem d_law_315 : decode b_law 315 = .ok (.iconst 3, 1) := by decide +kernel
theorem d_law_316 : decode b_law 316 = .ok (.iadd, 1) := by decide +kernel
theorem d_law_317 : decode b_law 317 = .ok (.iaload, 1) := by decide +kernel
theorem d_law_318 : decode b_law 318 = .ok (.ifCond .eq 7, 3) := by decide +kernel
theorem d_law_321 : decode b_law 321 = .ok (.iconst 1, 1) := by decide +kernel
theorem d_law_322 : decode b_law 322 = .ok (.goto 4, 3) := by decide +kernel
theorem d_law_325 : decode b_law 325 = .ok (.iconst 0, 1) := by decide +kernel
theorem d_law_326 : decode b_law 326 = .ok (.invokevirtual 23, 3) := by decide +kernel
theorem d_law_329 : decode b_law 329 = .ok (.aload_n 2, 1) := by decide +kernel
theorem d_law_330 : decode b_law 330 = .ok (.aload_n 0, 1) := by decide +kernel
theorem d_law_331 : decode b_law 331 = .ok (.iload_n 3, 1) := by decide +kernel
theorem d_law_332 : decode b_law 332 = .ok (.iconst 1, 1) := by decide +kernel
theorem d_law_333 : decode b_law 333 = .ok (.iadd, 1) := by decide +kernel
theorem d_law_334 : decode b_law 334 = .ok (.iaload, 1) := by decide +kernel
theorem d_law_335 : decode b_law 335 = .ok (.aload_n 0, 1) := by decide +kernel
theorem d_law_336 : decode b_law 336 = .ok (.iload_n 3, 1) := by decide +kernel
theorem d_law_337 : decode b_law 337 = .ok (.iconst 2, 1) := by decide +kernel
theorem d_law_338 : decode b_law 338 = .ok (.iadd, 1) := by decide +kernel
theorem d_law_339 : decode b_law 339 = .ok (.iaload, 1) := by decide +kernel
theorem d_law_340 : decode b_law 340 = .ok (.aload_n 0, 1) := by decide +kernel
theorem d_law_341 : decode b_law 341 = .ok (.iload_n 3, 1) := by decide +kernel
theorem d_law_342 : decode b_law 342 = .ok (.iconst 3, 1) := by decide +kernel
theorem d_law_343 : decode b_law 343 = .ok (.iadd, 1) := by decide +kernel
theorem d_law_344 : decode b_law 344 = .ok (.iaload, 1) := by decide +kernel
theorem d_law_345 : decode b_law 345 = .ok (.ifCond .eq 7, 3) := by decide +kernel
theorem d_law_348 : decode b_law 348 = .ok (.iconst 1, 1) := by decide +kernel
theorem d_law_349 : decode b_law 349 = .ok (.goto 4, 3) := by decide +kernel
theorem d_law_352 : decode b_law 352 = .ok (.iconst 0, 1) := by decide +kernel
theorem d_law_353 : decode b_law 353 = .ok (.invokevirtual 27, 3) := by decide +kernel
theorem d_law_356 : decode b_law 356 = .ok (.if_icmp .eq 1369, 3) := by decide +kernel
theorem d_law_359 : decode b_law 359 = .ok (.iconst 0, 1) := by decide +kernel
theorem d_law_360 : decode b_law 360 = .ok (.ireturn, 1) := by decide +kernel
theorem d_law_361 : decode b_law 361 = .ok (.aload_n 1, 1) := by decide +kernel
theorem d_law_362 : decode b_law 362 = .ok (.aload_n 0, 1) := by decide +kernel
theorem d_law_363 : decode b_law 363 = .ok (.iload_n 3, 1) := by decide +kernel
theorem d_law_364 : decode b_law 364 = .ok (.iconst 1, 1) := by decide +kernel
theorem d_law_365 : decode b_law 365 = .ok (.iadd, 1) := by decide +kernel
theorem d_law_366 : decode b_law 366 = .ok (.iaload, 1) := by decide +kernel
theorem d_law_367 : decode b_law 367 = .ok (.invokevirtual 28, 3) := by decide +kernel
theorem d_law_370 : decode b_law 370 = .ok (.aload_n 2, 1) := by decide +kernel
theorem d_law_371 : decode b_law 371 = .ok (.aload_n 0, 1) := by decide +kernel
theorem d_law_372 : decode b_law 372 = .ok (.iload_n 3, 1) := by decide +kernel
theorem d_law_373 : decode b_law 373 = .ok (.iconst 1, 1) := by decide +kernel
theorem d_law_374 : decode b_law 374 = .ok (.iadd, 1) := by decide +kernel
theorem d_law_375 : decode b_law 375 = .ok (.iaload, 1) := by decide +kernel
theorem d_law_376 : decode b_law 376 = .ok (.invokevirtual 32, 3) := by decide +kernel
theorem d_law_379 : decode b_law 379 = .ok (.if_icmp .eq 1346, 3) := by decide +kernel
theorem d_law_382 : decode b_law 382 = .ok (.iconst 0, 1) := by decide +kernel
theorem d_law_383 : decode b_law 383 = .ok (.ireturn, 1) := by decide +kernel
theorem d_law_384 : decode b_law 384 = .ok (.aload_n 1, 1) := by decide +kernel
theorem d_law_385 : decode b_law 385 = .ok (.aload_n 0, 1) := by decide +kernel
theorem d_law_386 : decode b_law 386 = .ok (.iload_n 3, 1) := by decide +kernel
theorem d_law_387 : decode b_law 387 = .ok (.iconst 1, 1) := by decide +kernel
theorem d_law_388 : decode b_law 388 = .ok (.iadd, 1) := by decide +kernel
theorem d_law_389 : decode b_law 389 = .ok (.iaload, 1) := by decide +kernel
theorem d_law_390 : decode b_law 390 = .ok (.invokevirtual 33, 3) := by decide +kernel
theorem d_law_393 : decode b_law 393 = .ok (.aload_n 2, 1) := by decide +kernel
theorem d_law_394 : decode b_law 394 = .ok (.aload_n 0, 1) := by decide +kernel
theorem d_law_395 : decode b_law 395 = .ok (.iload_n 3, 1) := by decide +kernel
theorem d_law_396 : decode b_law 396 = .ok (.iconst 1, 1) := by decide +kernel
theorem d_law_397 : decode b_law 397 = .ok (.iadd, 1) := by decide +kernel
theorem d_law_398 : decode b_law 398 = .ok (.iaload, 1) := by decide +kernel
theorem d_law_399 : decode b_law 399 = .ok (.invokevirtual 36, 3) := by decide +kernel
theorem d_law_402 : decode b_law 402 = .ok (.if_icmp .eq 1323, 3) := by decide +kernel
theorem d_law_405 : decode b_law 405 = .ok (.iconst 0, 1) := by decide +kernel
theorem d_law_406 : decode b_law 406 = .ok (.ireturn, 1) := by decide +kernel
theorem d_law_407 : decode b_law 407 = .ok (.aload_n 1, 1) := by decide +kernel
theorem d_law_408 : decode b_law 408 = .ok (.aload_n 0, 1) := by decide +kernel
theorem d_law_409 : decode b_law 409 = .ok (.iload_n 3, 1) := by decide +kernel
theorem d_law_410 : decode b_law 410 = .ok (.iconst 1, 1) := by decide +kernel
theorem d_law_411 : decode b_law 411 = .ok (.iadd, 1) := by decide +kernel
theorem d_law_412 : decode b_law 412 = .ok (.iaload, 1) := by decide +kernel
theorem d_law_413 : decode b_law 413 = .ok (.invokevirtual 37, 3) := by decide +kernel
theorem d_law_416 : decode b_law 416 = .ok (.aload_n 2, 1) := by decide +kernel
theorem d_law_417 : decode b_law 417 = .ok (.aload_n 0, 1) := by decide +kernel
theorem d_law_418 : decode b_law 418 = .ok (.iload_n 3, 1) := by decide +kernel
theorem d_law_419 : decode b_law 419 = .ok (.iconst 1, 1) := by decide +kernel
theorem d_law_420 : decode b_law 420 = .ok (.iadd, 1) := by decide +kernel
theorem d_law_421 : decode b_law 421 = .ok (.iaload, 1) := by decide +kernel
theorem d_law_422 : decode b_law 422 = .ok (.invokevirtual 40, 3) := by decide +kernel
theorem d_law_425 : decode b_law 425 = .ok (.if_icmp .eq 1300, 3) := by decide +kernel
theorem d_law_428 : decode b_law 428 = .ok (.iconst 0, 1) := by decide +kernel
theorem d_law_429 : decode b_law 429 = .ok (.ireturn, 1) := by decide +kernel
theorem d_law_430 : decode b_law 430 = .ok (.aload_n 1, 1) := by decide +kernel
theorem d_law_431 : decode b_law 431 = .ok (.aload_n 0, 1) := by decide +kernel
theorem d_law_432 : decode b_law 432 = .ok (.iload_n 3, 1) := by decide +kernel
theorem d_law_433 : decode b_law 433 = .ok (.iconst 1, 1) := by decide +kernel
theorem d_law_434 : decode b_law 434 = .ok (.iadd, 1) := by decide +kernel
theorem d_law_435 : decode b_law 435 = .ok (.iaload, 1) := by decide +kernel
theorem d_law_436 : decode b_law 436 = .ok (.invokevirtual 41, 3) := by decide +kernel
theorem d_law_439 : decode b_law 439 = .ok (.aload_n 2, 1) := by decide +kernel
theorem d_law_440 : decode b_law 440 = .ok (.aload_n 0, 1) := by decide +kernel
theorem d_law_441 : decode b_law 441 = .ok (.iload_n 3, 1) := by decide +kernel
theorem d_law_442 : decode b_law 442 = .ok (.iconst 1, 1) := by decide +kernel
theorem d_law_443 : decode b_law 443 = .ok (.iadd, 1) := by decide +kernel
theorem d_law_444 : decode b_law 444 = .ok (.iaload, 1) := by decide +kernel
theorem d_law_445 : decode b_law 445 = .ok (.invokevirtual 44, 3) := by decide +kernel
theorem d_law_448 : decode b_law 448 = .ok (.if_icmp .eq 1277, 3) := by decide +kernel
theorem d_law_451 : decode b_law 451 = .ok (.iconst 0, 1) := by decide +kernel
theorem d_law_452 : decode b_law 452 = .ok (.ireturn, 1) := by decide +kernel
theorem d_law_453 : decode b_law 453 = .ok (.aload_n 1, 1) := by decide +kernel
theorem d_law_454 : decode b_law 454 = .ok (.aload_n 0, 1) := by decide +kernel
theorem d_law_455 : decode b_law 455 = .ok (.iload_n 3, 1) := by decide +kernel
theorem d_law_456 : decode b_law 456 = .ok (.iconst 1, 1) := by decide +kernel
theorem d_law_457 : decode b_law 457 = .ok (.iadd, 1) := by decide +kernel
theorem d_law_458 : decode b_law 458 = .ok (.iaload, 1) := by decide +kernel
theorem d_law_459 : decode b_law 459 = .ok (.aload_n 0, 1) := by decide +kernel
theorem d_law_460 : decode b_law 460 = .ok (.iload_n 3, 1) := by decide +kernel
theorem d_law_461 : decode b_law 461 = .ok (.iconst 2, 1) := by decide +kernel
theorem d_law_462 : decode b_law 462 = .ok (.iadd, 1) := by decide +kernel
theorem d_law_463 : decode b_law 463 = .ok (.iaload, 1) := by decide +kernel
theorem d_law_464 : decode b_law 464 = .ok (.invokevirtual 45, 3) := by decide +kernel
theorem d_law_467 : decode b_law 467 = .ok (.aload_n 2, 1) := by decide +kernel
theorem d_law_468 : decode b_law 468 = .ok (.aload_n 0, 1) := by decide +kernel
theorem d_law_469 : decode b_law 469 = .ok (.iload_n 3, 1) := by decide +kernel
theorem d_law_470 : decode b_law 470 = .ok (.iconst 1, 1) := by decide +kernel
theorem d_law_471 : decode b_law 471 = .ok (.iadd, 1) := by decide +kernel
theorem d_law_472 : decode b_law 472 = .ok (.iaload, 1) := by decide +kernel
theorem d_law_473 : decode b_law 473 = .ok (.aload_n 0, 1) := by decide +kernel
theorem d_law_474 : decode b_law 474 = .ok (.iload_n 3, 1) := by decide +kernel
theorem d_law_475 : decode b_law 475 = .ok (.iconst 2, 1) := by decide +kernel
theorem d_law_476 : decode b_law 476 = .ok (.iadd, 1) := by decide +kernel
theorem d_law_477 : decode b_law 477 = .ok (.iaload, 1) := by decide +kernel
theorem d_law_478 : decode b_law 478 = .ok (.invokevirtual 48, 3) := by decide +kernel
theorem d_law_481 : decode b_law 481 = .ok (.if_icmp .eq 1244, 3) := by decide +kernel
theorem d_law_484 : decode b_law 484 = .ok (.iconst 0, 1) := by decide +kernel
theorem d_law_485 : decode b_law 485 = .ok (.ireturn, 1) := by decide +kernel
theorem d_law_486 : decode b_law 486 = .ok (.aload_n 1, 1) := by decide +kernel
theorem d_law_487 : decode b_law 487 = .ok (.aload_n 0, 1) := by decide +kernel
theorem d_law_488 : decode b_law 488 = .ok (.iload_n 3, 1) := by decide +kernel
theorem d_law_489 : decode b_law 489 = .ok (.iconst 1, 1) := by decide +kernel
theorem d_law_490 : decode b_law 490 = .ok (.iadd, 1) := by decide +kernel
theorem d_law_491 : decode b_law 491 = .ok (.iaload, 1) := by decide +kernel
theorem d_law_492 : decode b_law 492 = .ok (.aload_n 0, 1) := by decide +kernel
theorem d_law_493 : decode b_law 493 = .ok (.iload_n 3, 1) := by decide +kernel
theorem d_law_494 : decode b_law 494 = .ok (.iconst 2, 1) := by decide +kernel
theorem d_law_495 : decode b_law 495 = .ok (.iadd, 1) := by decide +kernel
theorem d_law_496 : decode b_law 496 = .ok (.iaload, 1) := by decide +kernel
theorem d_law_497 : decode b_law 497 = .ok (.invokevirtual 49, 3) := by decide +kernel
theorem d_law_500 : decode b_law 500 = .ok (.aload_n 2, 1) := by decide +kernel
theorem d_law_501 : decode b_law 501 = .ok (.aload_n 0, 1) := by decide +kernel
theorem d_law_502 : decode b_law 502 = .ok (.iload_n 3, 1) := by decide +kernel
theorem d_law_503 : decode b_law 503 = .ok (.iconst 1, 1) := by decide +kernel
theorem d_law_504 : decode b_law 504 = .ok (.iadd, 1) := by decide +kernel
theorem d_law_505 : decode b_law 505 = .ok (.iaload, 1) := by decide +kernel
theorem d_law_506 : decode b_law 506 = .ok (.aload_n 0, 1) := by decide +kernel
theorem d_law_507 : decode b_law 507 = .ok (.iload_n 3, 1) := by decide +kernel
theorem d_law_508 : decode b_law 508 = .ok (.iconst 2, 1) := by decide +kernel
theorem d_law_509 : decode b_law 509 = .ok (.iadd, 1) := by decide +kernel
theorem d_law_510 : decode b_law 510 = .ok (.iaload, 1) := by decide +kernel
theorem d_law_511 : decode b_law 511 = .ok (.invokevirtual 52, 3) := by decide +kernel
theorem d_law_514 : decode b_law 514 = .ok (.if_icmp .eq 1211, 3) := by decide +kernel
theorem d_law_517 : decode b_law 517 = .ok (.iconst 0, 1) := by decide +kernel
theorem d_law_518 : decode b_law 518 = .ok (.ireturn, 1) := by decide +kernel
theorem d_law_519 : decode b_law 519 = .ok (.aload_n 1, 1) := by decide +kernel
theorem d_law_520 : decode b_law 520 = .ok (.invokevirtual 53, 3) := by decide +kernel
theorem d_law_523 : decode b_law 523 = .ok (.aload_n 2, 1) := by decide +kernel
theorem d_law_524 : decode b_law 524 = .ok (.invokevirtual 56, 3) := by decide +kernel
theorem d_law_527 : decode b_law 527 = .ok (.if_icmp .eq 1198, 3) := by decide +kernel
theorem d_law_530 : decode b_law 530 = .ok (.iconst 0, 1) := by decide +kernel
theorem d_law_531 : decode b_law 531 = .ok (.ireturn, 1) := by decide +kernel
theorem d_law_532 : decode b_law 532 = .ok (.aload_n 1, 1) := by decide +kernel
theorem d_law_533 : decode b_law 533 = .ok (.aload_n 0, 1) := by decide +kernel
theorem d_law_534 : decode b_law 534 = .ok (.iload_n 3, 1) := by decide +kernel
theorem d_law_535 : decode b_law 535 = .ok (.iconst 1, 1) := by decide +kernel
theorem d_law_536 : decode b_law 536 = .ok (.iadd, 1) := by decide +kernel
theorem d_law_537 : decode b_law 537 = .ok (.iaload, 1) := by decide +kernel
theorem d_law_538 : decode b_law 538 = .ok (.aload_n 0, 1) := by decide +kernel
theorem d_law_539 : decode b_law 539 = .ok (.iload_n 3, 1) := by decide +kernel
theorem d_law_540 : decode b_law 540 = .ok (.iconst 2, 1) := by decide +kernel
theorem d_law_541 : decode b_law 541 = .ok (.iadd, 1) := by decide +kernel
theorem d_law_542 : decode b_law 542 = .ok (.iaload, 1) := by decide +kernel
theorem d_law_543 : decode b_law 543 = .ok (.aload_n 0, 1) := by decide +kernel
theorem d_law_544 : decode b_law 544 = .ok (.iload_n 3, 1) := by decide +kernel
theorem d_law_545 : decode b_law 545 = .ok (.iconst 3, 1) := by decide +kernel
theorem d_law_546 : decode b_law 546 = .ok (.iadd, 1) := by decide +kernel
theorem d_law_547 : decode b_law 547 = .ok (.iaload, 1) := by decide +kernel
theorem d_law_548 : decode b_law 548 = .ok (.ifCond .eq 7, 3) := by decide +kernel
theorem d_law_551 : decode b_law 551 = .ok (.iconst 1, 1) := by decide +kernel
theorem d_law_552 : decode b_law 552 = .ok (.goto 4, 3) := by decide +kernel
theorem d_law_555 : decode b_law 555 = .ok (.iconst 0, 1) := by decide +kernel
theorem d_law_556 : decode b_law 556 = .ok (.invokevirtual 57, 3) := by decide +kernel
theorem d_law_559 : decode b_law 559 = .ok (.aload_n 2, 1) := by decide +kernel
theorem d_law_560 : decode b_law 560 = .ok (.aload_n 0, 1) := by decide +kernel
theorem d_law_561 : decode b_law 561 = .ok (.iload_n 3, 1) := by decide +kernel
theorem d_law_562 : decode b_law 562 = .ok (.iconst 1, 1) := by decide +kernel
theorem d_law_563 : decode b_law 563 = .ok (.iadd, 1) := by decide +kernel
theorem d_law_564 : decode b_law 564 = .ok (.iaload, 1) := by decide +kernel
theorem d_law_565 : decode b_law 565 = .ok (.aload_n 0, 1) := by decide +kernel
theorem d_law_566 : decode b_law 566 = .ok (.iload_n 3, 1) := by decide +kernel
theorem d_law_567 : decode b_law 567 = .ok (.iconst 2, 1) := by decide +kernel
theorem d_law_568 : decode b_law 568 = .ok (.iadd, 1) := by decide +kernel
theorem d_law_569 : decode b_law 569 = .ok (.iaload, 1) := by decide +kernel
theorem d_law_570 : decode b_law 570 = .ok (.aload_n 0, 1) := by decide +kernel
theorem d_law_571 : decode b_law 571 = .ok (.iload_n 3, 1) := by decide +kernel
theorem d_law_572 : decode b_law 572 = .ok (.iconst 3, 1) := by decide +kernel
theorem d_law_573 : decode b_law 573 = .ok (.iadd, 1) := by decide +kernel
theorem d_law_574 : decode b_law 574 = .ok (.iaload, 1) := by decide +kernel
theorem d_law_575 : decode b_law 575 = .ok (.ifCond .eq 7, 3) := by decide +kernel
theorem d_law_578 : decode b_law 578 = .ok (.iconst 1, 1) := by decide +kernel
theorem d_law_579 : decode b_law 579 = .ok (.goto 4, 3) := by decide +kernel
theorem d_law_582 : decode b_law 582 = .ok (.iconst 0, 1) := by decide +kernel
theorem d_law_583 : decode b_law 583 = .ok (.invokevirtual 60, 3) := by decide +kernel
theorem d_law_586 : decode b_law 586 = .ok (.if_icmp .eq 1139, 3) := by decide +kernel
theorem d_law_589 : decode b_law 589 = .ok (.iconst 0, 1) := by decide +kernel
theorem d_law_590 : decode b_law 590 = .ok (.ireturn, 1) := by decide +kernel
theorem d_law_591 : decode b_law 591 = .ok (.aload_n 1, 1) := by decide +kernel
theorem d_law_592 : decode b_law 592 = .ok (.aload_n 0, 1) := by decide +kernel
theorem d_law_593 : decode b_law 593 = .ok (.iload_n 3, 1) := by decide +kernel
theorem d_law_594 : decode b_law 594 = .ok (.iconst 1, 1) := by decide +kernel
theorem d_law_595 : decode b_law 595 = .ok (.iadd, 1) := by decide +kernel
theorem d_law_596 : decode b_law 596 = .ok (.iaload, 1) := by decide +kernel
theorem d_law_597 : decode b_law 597 = .ok (.invokevirtual 61, 3) := by decide +kernel
theorem d_law_600 : decode b_law 600 = .ok (.aload_n 2, 1) := by decide +kernel
theorem d_law_601 : decode b_law 601 = .ok (.aload_n 0, 1) := by decide +kernel
theorem d_law_602 : decode b_law 602 = .ok (.iload_n 3, 1) := by decide +kernel
theorem d_law_603 : decode b_law 603 = .ok (.iconst 1, 1) := by decide +kernel
theorem d_law_604 : decode b_law 604 = .ok (.iadd, 1) := by decide +kernel
theorem d_law_605 : decode b_law 605 = .ok (.iaload, 1) := by decide +kernel
theorem d_law_606 : decode b_law 606 = .ok (.invokevirtual 64, 3) := by decide +kernel
theorem d_law_609 : decode b_law 609 = .ok (.if_icmp .eq 1116, 3) := by decide +kernel
theorem d_law_612 : decode b_law 612 = .ok (.iconst 0, 1) := by decide +kernel
theorem d_law_613 : decode b_law 613 = .ok (.ireturn, 1) := by decide +kernel
theorem d_law_614 : decode b_law 614 = .ok (.aload_n 1, 1) := by decide +kernel
theorem d_law_615 : decode b_law 615 = .ok (.aload_n 0, 1) := by decide +kernel
theorem d_law_616 : decode b_law 616 = .ok (.iload_n 3, 1) := by decide +kernel
theorem d_law_617 : decode b_law 617 = .ok (.iconst 1, 1) := by decide +kernel
theorem d_law_618 : decode b_law 618 = .ok (.iadd, 1) := by decide +kernel
theorem d_law_619 : decode b_law 619 = .ok (.iaload, 1) := by decide +kernel
theorem d_law_620 : decode b_law 620 = .ok (.invokevirtual 65, 3) := by decide +kernel
theorem d_law_623 : decode b_law 623 = .ok (.aload_n 2, 1) := by decide +kernel
theorem d_law_624 : decode b_law 624 = .ok (.aload_n 0, 1) := by decide +kernel
theorem d_law_625 : decode b_law 625 = .ok (.iload_n 3, 1) := by decide +kernel
theorem d_law_626 : decode b_law 626 = .ok (.iconst 1, 1) := by decide +kernel
theorem d_law_627 : decode b_law 627 = .ok (.iadd, 1) := by decide +kernel
theorem d_law_628 : decode b_law 628 = .ok (.iaload, 1) := by decide +kernel
theorem d_law_629 : decode b_law 629 = .ok (.invokevirtual 68, 3) := by decide +kernel
theorem d_law_632 : decode b_law 632 = .ok (.if_icmp .eq 1093, 3) := by decide +kernel
theorem d_law_635 : decode b_law 635 = .ok (.iconst 0, 1) := by decide +kernel
theorem d_law_636 : decode b_law 636 = .ok (.ireturn, 1) := by decide +kernel
theorem d_law_637 : decode b_law 637 = .ok (.aload_n 1, 1) := by decide +kernel
theorem d_law_638 : decode b_law 638 = .ok (.aload_n 0, 1) := by decide +kernel
theorem d_law_639 : decode b_law 639 = .ok (.iload_n 3, 1) := by decide +kernel
theorem d_law_640 : decode b_law 640 = .ok (.iconst 1, 1) := by decide +kernel
theorem d_law_641 : decode b_law 641 = .ok (.iadd, 1) := by decide +kernel
theorem d_law_642 : decode b_law 642 = .ok (.iaload, 1) := by decide +kernel
theorem d_law_643 : decode b_law 643 = .ok (.invokevirtual 69, 3) := by decide +kernel
theorem d_law_646 : decode b_law 646 = .ok (.aload_n 2, 1) := by decide +kernel
theorem d_law_647 : decode b_law 647 = .ok (.aload_n 0, 1) := by decide +kernel
theorem d_law_648 : decode b_law 648 = .ok (.iload_n 3, 1) := by decide +kernel
theorem d_law_649 : decode b_law 649 = .ok (.iconst 1, 1) := by decide +kernel
theorem d_law_650 : decode b_law 650 = .ok (.iadd, 1) := by decide +kernel
theorem d_law_651 : decode b_law 651 = .ok (.iaload, 1) := by decide +kernel
theorem d_law_652 : decode b_law 652 = .ok (.invokevirtual 72, 3) := by decide +kernel
theorem d_law_655 : decode b_law 655 = .ok (.if_icmp .eq 1070, 3) := by decide +kernel
theorem d_law_658 : decode b_law 658 = .ok (.iconst 0, 1) := by decide +kernel
theorem d_law_659 : decode b_law 659 = .ok (.ireturn, 1) := by decide +kernel
theorem d_law_660 : decode b_law 660 = .ok (.aload_n 1, 1) := by decide +kernel
theorem d_law_661 : decode b_law 661 = .ok (.aload_n 0, 1) := by decide +kernel
theorem d_law_662 : decode b_law 662 = .ok (.iload_n 3, 1) := by decide +kernel
theorem d_law_663 : decode b_law 663 = .ok (.iconst 1, 1) := by decide +kernel
theorem d_law_664 : decode b_law 664 = .ok (.iadd, 1) := by decide +kernel
theorem d_law_665 : decode b_law 665 = .ok (.iaload, 1) := by decide +kernel
theorem d_law_666 : decode b_law 666 = .ok (.invokevirtual 73, 3) := by decide +kernel
theorem d_law_669 : decode b_law 669 = .ok (.aload_n 2, 1) := by decide +kernel
theorem d_law_670 : decode b_law 670 = .ok (.aload_n 0, 1) := by decide +kernel
theorem d_law_671 : decode b_law 671 = .ok (.iload_n 3, 1) := by decide +kernel
theorem d_law_672 : decode b_law 672 = .ok (.iconst 1, 1) := by decide +kernel
theorem d_law_673 : decode b_law 673 = .ok (.iadd, 1) := by decide +kernel
theorem d_law_674 : decode b_law 674 = .ok (.iaload, 1) := by decide +kernel
theorem d_law_675 : decode b_law 675 = .ok (.invokevirtual 76, 3) := by decide +kernel
theorem d_law_678 : decode b_law 678 = .ok (.if_icmp .eq 1047, 3) := by decide +kernel
theorem d_law_681 : decode b_law 681 = .ok (.iconst 0, 1) := by decide +kernel
theorem d_law_682 : decode b_law 682 = .ok (.ireturn, 1) := by decide +kernel
theorem d_law_683 : decode b_law 683 = .ok (.aload_n 1, 1) := by decide +kernel
theorem d_law_684 : decode b_law 684 = .ok (.aload_n 0, 1) := by decide +kernel
theorem d_law_685 : decode b_law 685 = .ok (.iload_n 3, 1) := by decide +kernel
theorem d_law_686 : decode b_law 686 = .ok (.iconst 1, 1) := by decide +kernel
theorem d_law_687 : decode b_law 687 = .ok (.iadd, 1) := by decide +kernel
theorem d_law_688 : decode b_law 688 = .ok (.iaload, 1) := by decide +kernel
theorem d_law_689 : decode b_law 689 = .ok (.aload_n 0, 1) := by decide +kernel
theorem d_law_690 : decode b_law 690 = .ok (.iload_n 3, 1) := by decide +kernel
theorem d_law_691 : decode b_law 691 = .ok (.iconst 2, 1) := by decide +kernel
theorem d_law_692 : decode b_law 692 = .ok (.iadd, 1) := by decide +kernel
theorem d_law_693 : decode b_law 693 = .ok (.iaload, 1) := by decide +kernel
theorem d_law_694 : decode b_law 694 = .ok (.invokevirtual 77, 3) := by decide +kernel
theorem d_law_697 : decode b_law 697 = .ok (.aload_n 2, 1) := by decide +kernel
theorem d_law_698 : decode b_law 698 = .ok (.aload_n 0, 1) := by decide +kernel
theorem d_law_699 : decode b_law 699 = .ok (.iload_n 3, 1) := by decide +kernel
theorem d_law_700 : decode b_law 700 = .ok (.iconst 1, 1) := by decide +kernel
theorem d_law_701 : decode b_law 701 = .ok (.iadd, 1) := by decide +kernel
theorem d_law_702 : decode b_law 702 = .ok (.iaload, 1) := by decide +kernel
theorem d_law_703 : decode b_law 703 = .ok (.aload_n 0, 1) := by decide +kernel
theorem d_law_704 : decode b_law 704 = .ok (.iload_n 3, 1) := by decide +kernel
theorem d_law_705 : decode b_law 705 = .ok (.iconst 2, 1) := by decide +kernel
theorem d_law_706 : decode b_law 706 = .ok (.iadd, 1) := by decide +kernel
theorem d_law_707 : decode b_law 707 = .ok (.iaload, 1) := by decide +kernel
theorem d_law_708 : decode b_law 708 = .ok (.invokevirtual 80, 3) := by decide +kernel
theorem d_law_711 : decode b_law 711 = .ok (.if_icmp .eq 1014, 3) := by decide +kernel
theorem d_law_714 : decode b_law 714 = .ok (.iconst 0, 1) := by decide +kernel
theorem d_law_715 : decode b_law 715 = .ok (.ireturn, 1) := by decide +kernel
theorem d_law_716 : decode b_law 716 = .ok (.aload_n 1, 1) := by decide +kernel
theorem d_law_717 : decode b_law 717 = .ok (.aload_n 0, 1) := by decide +kernel
theorem d_law_718 : decode b_law 718 = .ok (.iload_n 3, 1) := by decide +kernel
theorem d_law_719 : decode b_law 719 = .ok (.iconst 1, 1) := by decide +kernel
theorem d_law_720 : decode b_law 720 = .ok (.iadd, 1) := by decide +kernel
theorem d_law_721 : decode b_law 721 = .ok (.iaload, 1) := by decide +kernel
theorem d_law_722 : decode b_law 722 = .ok (.aload_n 0, 1) := by decide +kernel
theorem d_law_723 : decode b_law 723 = .ok (.iload_n 3, 1) := by decide +kernel
theorem d_law_724 : decode b_law 724 = .ok (.iconst 2, 1) := by decide +kernel
theorem d_law_725 : decode b_law 725 = .ok (.iadd, 1) := by decide +kernel
theorem d_law_726 : decode b_law 726 = .ok (.iaload, 1) := by decide +kernel
theorem d_law_727 : decode b_law 727 = .ok (.invokevirtual 81, 3) := by decide +kernel
theorem d_law_730 : decode b_law 730 = .ok (.aload_n 2, 1) := by decide +kernel
theorem d_law_731 : decode b_law 731 = .ok (.aload_n 0, 1) := by decide +kernel
theorem d_law_732 : decode b_law 732 = .ok (.iload_n 3, 1) := by decide +kernel
theorem d_law_733 : decode b_law 733 = .ok (.iconst 1, 1) := by decide +kernel
theorem d_law_734 : decode b_law 734 = .ok (.iadd, 1) := by decide +kernel
theorem d_law_735 : decode b_law 735 = .ok (.iaload, 1) := by decide +kernel
theorem d_law_736 : decode b_law 736 = .ok (.aload_n 0, 1) := by decide +kernel
theorem d_law_737 : decode b_law 737 = .ok (.iload_n 3, 1) := by decide +kernel
theorem d_law_738 : decode b_law 738 = .ok (.iconst 2, 1) := by decide +kernel
theorem d_law_739 : decode b_law 739 = .ok (.iadd, 1) := by decide +kernel
theorem d_law_740 : decode b_law 740 = .ok (.iaload, 1) := by decide +kernel
theorem d_law_741 : decode b_law 741 = .ok (.invokevirtual 84, 3) := by decide +kernel
theorem d_law_744 : decode b_law 744 = .ok (.if_icmp .eq 981, 3) := by decide +kernel
theorem d_law_747 : decode b_law 747 = .ok (.iconst 0, 1) := by decide +kernel
theorem d_law_748 : decode b_law 748 = .ok (.ireturn, 1) := by decide +kernel
theorem d_law_749 : decode b_law 749 = .ok (.aload_n 1, 1) := by decide +kernel
theorem d_law_750 : decode b_law 750 = .ok (.aload_n 0, 1) := by decide +kernel
theorem d_law_751 : decode b_law 751 = .ok (.iload_n 3, 1) := by decide +kernel
theorem d_law_752 : decode b_law 752 = .ok (.iconst 1, 1) := by decide +kernel
theorem d_law_753 : decode b_law 753 = .ok (.iadd, 1) := by decide +kernel
theorem d_law_754 : decode b_law 754 = .ok (.iaload, 1) := by decide +kernel
theorem d_law_755 : decode b_law 755 = .ok (.invokevirtual 85, 3) := by decide +kernel
theorem d_law_758 : decode b_law 758 = .ok (.aload_n 2, 1) := by decide +kernel
theorem d_law_759 : decode b_law 759 = .ok (.aload_n 0, 1) := by decide +kernel
theorem d_law_760 : decode b_law 760 = .ok (.iload_n 3, 1) := by decide +kernel
theorem d_law_761 : decode b_law 761 = .ok (.iconst 1, 1) := by decide +kernel
theorem d_law_762 : decode b_law 762 = .ok (.iadd, 1) := by decide +kernel
theorem d_law_763 : decode b_law 763 = .ok (.iaload, 1) := by decide +kernel
theorem d_law_764 : decode b_law 764 = .ok (.invokevirtual 88, 3) := by decide +kernel
theorem d_law_767 : decode b_law 767 = .ok (.if_icmp .eq 958, 3) := by decide +kernel
theorem d_law_770 : decode b_law 770 = .ok (.iconst 0, 1) := by decide +kernel
theorem d_law_771 : decode b_law 771 = .ok (.ireturn, 1) := by decide +kernel
theorem d_law_772 : decode b_law 772 = .ok (.aload_n 1, 1) := by decide +kernel
theorem d_law_773 : decode b_law 773 = .ok (.aload_n 0, 1) := by decide +kernel
theorem d_law_774 : decode b_law 774 = .ok (.iload_n 3, 1) := by decide +kernel
theorem d_law_775 : decode b_law 775 = .ok (.iconst 1, 1) := by decide +kernel
theorem d_law_776 : decode b_law 776 = .ok (.iadd, 1) := by decide +kernel
theorem d_law_777 : decode b_law 777 = .ok (.iaload, 1) := by decide +kernel
theorem d_law_778 : decode b_law 778 = .ok (.invokevirtual 89, 3) := by decide +kernel
theorem d_law_781 : decode b_law 781 = .ok (.aload_n 2, 1) := by decide +kernel
theorem d_law_782 : decode b_law 782 = .ok (.aload_n 0, 1) := by decide +kernel
theorem d_law_783 : decode b_law 783 = .ok (.iload_n 3, 1) := by decide +kernel
theorem d_law_784 : decode b_law 784 = .ok (.iconst 1, 1) := by decide +kernel
theorem d_law_785 : decode b_law 785 = .ok (.iadd, 1) := by decide +kernel
theorem d_law_786 : decode b_law 786 = .ok (.iaload, 1) := by decide +kernel
theorem d_law_787 : decode b_law 787 = .ok (.invokevirtual 92, 3) := by decide +kernel
theorem d_law_790 : decode b_law 790 = .ok (.if_icmp .eq 935, 3) := by decide +kernel
theorem d_law_793 : decode b_law 793 = .ok (.iconst 0, 1) := by decide +kernel
theorem d_law_794 : decode b_law 794 = .ok (.ireturn, 1) := by decide +kernel
theorem d_law_795 : decode b_law 795 = .ok (.aload_n 1, 1) := by decide +kernel
theorem d_law_796 : decode b_law 796 = .ok (.aload_n 0, 1) := by decide +kernel
theorem d_law_797 : decode b_law 797 = .ok (.iload_n 3, 1) := by decide +kernel
theorem d_law_798 : decode b_law 798 = .ok (.iconst 1, 1) := by decide +kernel
theorem d_law_799 : decode b_law 799 = .ok (.iadd, 1) := by decide +kernel
theorem d_law_800 : decode b_law 800 = .ok (.iaload, 1) := by decide +kernel
theorem d_law_801 : decode b_law 801 = .ok (.invokevirtual 93, 3) := by decide +kernel
theorem d_law_804 : decode b_law 804 = .ok (.aload_n 2, 1) := by decide +kernel
theorem d_law_805 : decode b_law 805 = .ok (.aload_n 0, 1) := by decide +kernel
theorem d_law_806 : decode b_law 806 = .ok (.iload_n 3, 1) := by decide +kernel
theorem d_law_807 : decode b_law 807 = .ok (.iconst 1, 1) := by decide +kernel
theorem d_law_808 : decode b_law 808 = .ok (.iadd, 1) := by decide +kernel
theorem d_law_809 : decode b_law 809 = .ok (.iaload, 1) := by decide +kernel
theorem d_law_810 : decode b_law 810 = .ok (.invokevirtual 96, 3) := by decide +kernel
theorem d_law_813 : decode b_law 813 = .ok (.if_icmp .eq 912, 3) := by decide +kernel
theorem d_law_816 : decode b_law 816 = .ok (.iconst 0, 1) := by decide +kernel
theorem d_law_817 : decode b_law 817 = .ok (.ireturn, 1) := by decide +kernel
theorem d_law_818 : decode b_law 818 = .ok (.aload_n 1, 1) := by decide +kernel
theorem d_law_819 : decode b_law 819 = .ok (.aload_n 0, 1) := by decide +kernel
theorem d_law_820 : decode b_law 820 = .ok (.iload_n 3, 1) := by decide +kernel
theorem d_law_821 : decode b_law 821 = .ok (.iconst 1, 1) := by decide +kernel
theorem d_law_822 : decode b_law 822 = .ok (.iadd, 1) := by decide +kernel
theorem d_law_823 : decode b_law 823 = .ok (.iaload, 1) := by decide +kernel
theorem d_law_824 : decode b_law 824 = .ok (.aload_n 0, 1) := by decide +kernel
theorem d_law_825 : decode b_law 825 = .ok (.iload_n 3, 1) := by decide +kernel
theorem d_law_826 : decode b_law 826 = .ok (.iconst 2, 1) := by decide +kernel
theorem d_law_827 : decode b_law 827 = .ok (.iadd, 1) := by decide +kernel
theorem d_law_828 : decode b_law 828 = .ok (.iaload, 1) := by decide +kernel
theorem d_law_829 : decode b_law 829 = .ok (.invokevirtual 97, 3) := by decide +kernel
theorem d_law_832 : decode b_law 832 = .ok (.aload_n 2, 1) := by decide +kernel
theorem d_law_833 : decode b_law 833 = .ok (.aload_n 0, 1) := by decide +kernel
theorem d_law_834 : decode b_law 834 = .ok (.iload_n 3, 1) := by decide +kernel
theorem d_law_835 : decode b_law 835 = .ok (.iconst 1, 1) := by decide +kernel
theorem d_law_836 : decode b_law 836 = .ok (.iadd, 1) := by decide +kernel
theorem d_law_837 : decode b_law 837 = .ok (.iaload, 1) := by decide +kernel
theorem d_law_838 : decode b_law 838 = .ok (.aload_n 0, 1) := by decide +kernel
theorem d_law_839 : decode b_law 839 = .ok (.iload_n 3, 1) := by decide +kernel
theorem d_law_840 : decode b_law 840 = .ok (.iconst 2, 1) := by decide +kernel
theorem d_law_841 : decode b_law 841 = .ok (.iadd, 1) := by decide +kernel
theorem d_law_842 : decode b_law 842 = .ok (.iaload, 1) := by decide +kernel
theorem d_law_843 : decode b_law 843 = .ok (.invokevirtual 100, 3) := by decide +kernel
theorem d_law_846 : decode b_law 846 = .ok (.if_icmp .eq 879, 3) := by decide +kernel
theorem d_law_849 : decode b_law 849 = .ok (.iconst 0, 1) := by decide +kernel
theorem d_law_850 : decode b_law 850 = .ok (.ireturn, 1) := by decide +kernel
theorem d_law_851 : decode b_law 851 = .ok (.aload_n 1, 1) := by decide +kernel
theorem d_law_852 : decode b_law 852 = .ok (.aload_n 0, 1) := by decide +kernel
theorem d_law_853 : decode b_law 853 = .ok (.iload_n 3, 1) := by decide +kernel
theorem d_law_854 : decode b_law 854 = .ok (.iconst 1, 1) := by decide +kernel
theorem d_law_855 : decode b_law 855 = .ok (.iadd, 1) := by decide +kernel
theorem d_law_856 : decode b_law 856 = .ok (.iaload, 1) := by decide +kernel
theorem d_law_857 : decode b_law 857 = .ok (.aload_n 0, 1) := by decide +kernel
theorem d_law_858 : decode b_law 858 = .ok (.iload_n 3, 1) := by decide +kernel
theorem d_law_859 : decode b_law 859 = .ok (.iconst 2, 1) := by decide +kernel
theorem d_law_860 : decode b_law 860 = .ok (.iadd, 1) := by decide +kernel
theorem d_law_861 : decode b_law 861 = .ok (.iaload, 1) := by decide +kernel
theorem d_law_862 : decode b_law 862 = .ok (.invokevirtual 101, 3) := by decide +kernel
theorem d_law_865 : decode b_law 865 = .ok (.aload_n 2, 1) := by decide +kernel
theorem d_law_866 : decode b_law 866 = .ok (.aload_n 0, 1) := by decide +kernel
theorem d_law_867 : decode b_law 867 = .ok (.iload_n 3, 1) := by decide +kernel
theorem d_law_868 : decode b_law 868 = .ok (.iconst 1, 1) := by decide +kernel
theorem d_law_869 : decode b_law 869 = .ok (.iadd, 1) := by decide +kernel
theorem d_law_870 : decode b_law 870 = .ok (.iaload, 1) := by decide +kernel
theorem d_law_871 : decode b_law 871 = .ok (.aload_n 0, 1) := by decide +kernel
theorem d_law_872 : decode b_law 872 = .ok (.iload_n 3, 1) := by decide +kernel
theorem d_law_873 : decode b_law 873 = .ok (.iconst 2, 1) := by decide +kernel
theorem d_law_874 : decode b_law 874 = .ok (.iadd, 1) := by decide +kernel
theorem d_law_875 : decode b_law 875 = .ok (.iaload, 1) := by decide +kernel
theorem d_law_876 : decode b_law 876 = .ok (.invokevirtual 104, 3) := by decide +kernel
theorem d_law_879 : decode b_law 879 = .ok (.if_icmp .eq 846, 3) := by decide +kernel
theorem d_law_882 : decode b_law 882 = .ok (.iconst 0, 1) := by decide +kernel
theorem d_law_883 : decode b_law 883 = .ok (.ireturn, 1) := by decide +kernel
theorem d_law_884 : decode b_law 884 = .ok (.aload_n 1, 1) := by decide +kernel
theorem d_law_885 : decode b_law 885 = .ok (.aload_n 0, 1) := by decide +kernel
theorem d_law_886 : decode b_law 886 = .ok (.iload_n 3, 1) := by decide +kernel
theorem d_law_887 : decode b_law 887 = .ok (.iconst 1, 1) := by decide +kernel
theorem d_law_888 : decode b_law 888 = .ok (.iadd, 1) := by decide +kernel
theorem d_law_889 : decode b_law 889 = .ok (.iaload, 1) := by decide +kernel
theorem d_law_890 : decode b_law 890 = .ok (.aload_n 0, 1) := by decide +kernel
theorem d_law_891 : decode b_law 891 = .ok (.iload_n 3, 1) := by decide +kernel
theorem d_law_892 : decode b_law 892 = .ok (.iconst 2, 1) := by decide +kernel
theorem d_law_893 : decode b_law 893 = .ok (.iadd, 1) := by decide +kernel
theorem d_law_894 : decode b_law 894 = .ok (.iaload, 1) := by decide +kernel
theorem d_law_895 : decode b_law 895 = .ok (.invokevirtual 105, 3) := by decide +kernel
theorem d_law_898 : decode b_law 898 = .ok (.aload_n 2, 1) := by decide +kernel
theorem d_law_899 : decode b_law 899 = .ok (.aload_n 0, 1) := by decide +kernel
theorem d_law_900 : decode b_law 900 = .ok (.iload_n 3, 1) := by decide +kernel
theorem d_law_901 : decode b_law 901 = .ok (.iconst 1, 1) := by decide +kernel
theorem d_law_902 : decode b_law 902 = .ok (.iadd, 1) := by decide +kernel
theorem d_law_903 : decode b_law 903 = .ok (.iaload, 1) := by decide +kernel
theorem d_law_904 : decode b_law 904 = .ok (.aload_n 0, 1) := by decide +kernel
theorem d_law_905 : decode b_law 905 = .ok (.iload_n 3, 1) := by decide +kernel
theorem d_law_906 : decode b_law 906 = .ok (.iconst 2, 1) := by decide +kernel
theorem d_law_907 : decode b_law 907 = .ok (.iadd, 1) := by decide +kernel
theorem d_law_908 : decode b_law 908 = .ok (.iaload, 1) := by decide +kernel
theorem d_law_909 : decode b_law 909 = .ok (.invokevirtual 108, 3) := by decide +kernel
theorem d_law_912 : decode b_law 912 = .ok (.if_icmp .eq 813, 3) := by decide +kernel
theorem d_law_915 : decode b_law 915 = .ok (.iconst 0, 1) := by decide +kernel
theorem d_law_916 : decode b_law 916 = .ok (.ireturn, 1) := by decide +kernel
theorem d_law_917 : decode b_law 917 = .ok (.aload_n 1, 1) := by decide +kernel
theorem d_law_918 : decode b_law 918 = .ok (.aload_n 0, 1) := by decide +kernel
theorem d_law_919 : decode b_law 919 = .ok (.iload_n 3, 1) := by decide +kernel
theorem d_law_920 : decode b_law 920 = .ok (.iconst 1, 1) := by decide +kernel
theorem d_law_921 : decode b_law 921 = .ok (.iadd, 1) := by decide +kernel
theorem d_law_922 : decode b_law 922 = .ok (.iaload, 1) := by decide +kernel
theorem d_law_923 : decode b_law 923 = .ok (.aload_n 0, 1) := by decide +kernel
theorem d_law_924 : decode b_law 924 = .ok (.iload_n 3, 1) := by decide +kernel
theorem d_law_925 : decode b_law 925 = .ok (.iconst 2, 1) := by decide +kernel
theorem d_law_926 : decode b_law 926 = .ok (.iadd, 1) := by decide +kernel
theorem d_law_927 : decode b_law 927 = .ok (.iaload, 1) := by decide +kernel
theorem d_law_928 : decode b_law 928 = .ok (.invokevirtual 109, 3) := by decide +kernel
theorem d_law_931 : decode b_law 931 = .ok (.aload_n 2, 1) := by decide +kernel
theorem d_law_932 : decode b_law 932 = .ok (.aload_n 0, 1) := by decide +kernel
theorem d_law_933 : decode b_law 933 = .ok (.iload_n 3, 1) := by decide +kernel
theorem d_law_934 : decode b_law 934 = .ok (.iconst 1, 1) := by decide +kernel
theorem d_law_935 : decode b_law 935 = .ok (.iadd, 1) := by decide +kernel
theorem d_law_936 : decode b_law 936 = .ok (.iaload, 1) := by decide +kernel
theorem d_law_937 : decode b_law 937 = .ok (.aload_n 0, 1) := by decide +kernel
theorem d_law_938 : decode b_law 938 = .ok (.iload_n 3, 1) := by decide +kernel
theorem d_law_939 : decode b_law 939 = .ok (.iconst 2, 1) := by decide +kernel
theorem d_law_940 : decode b_law 940 = .ok (.iadd, 1) := by decide +kernel
theorem d_law_941 : decode b_law 941 = .ok (.iaload, 1) := by decide +kernel
theorem d_law_942 : decode b_law 942 = .ok (.invokevirtual 112, 3) := by decide +kernel
theorem d_law_945 : decode b_law 945 = .ok (.if_icmp .eq 780, 3) := by decide +kernel
theorem d_law_948 : decode b_law 948 = .ok (.iconst 0, 1) := by decide +kernel
theorem d_law_949 : decode b_law 949 = .ok (.ireturn, 1) := by decide +kernel
theorem d_law_950 : decode b_law 950 = .ok (.aload_n 1, 1) := by decide +kernel
theorem d_law_951 : decode b_law 951 = .ok (.aload_n 0, 1) := by decide +kernel
theorem d_law_952 : decode b_law 952 = .ok (.iload_n 3, 1) := by decide +kernel
theorem d_law_953 : decode b_law 953 = .ok (.iconst 1, 1) := by decide +kernel
theorem d_law_954 : decode b_law 954 = .ok (.iadd, 1) := by decide +kernel
theorem d_law_955 : decode b_law 955 = .ok (.iaload, 1) := by decide +kernel
theorem d_law_956 : decode b_law 956 = .ok (.aload_n 0, 1) := by decide +kernel
theorem d_law_957 : decode b_law 957 = .ok (.iload_n 3, 1) := by decide +kernel
theorem d_law_958 : decode b_law 958 = .ok (.iconst 2, 1) := by decide +kernel
theorem d_law_959 : decode b_law 959 = .ok (.iadd, 1) := by decide +kernel
theorem d_law_960 : decode b_law 960 = .ok (.iaload, 1) := by decide +kernel
theorem d_law_961 : decode b_law 961 = .ok (.aload_n 0, 1) := by decide +kernel
theorem d_law_962 : decode b_law 962 = .ok (.iload_n 3, 1) := by decide +kernel
theorem d_law_963 : decode b_law 963 = .ok (.iconst 3, 1) := by decide +kernel
theorem d_law_964 : decode b_law 964 = .ok (.iadd, 1) := by decide +kernel
theorem d_law_965 : decode b_law 965 = .ok (.iaload, 1) := by decide +kernel
theorem d_law_966 : decode b_law 966 = .ok (.invokevirtual 113, 3) := by decide +kernel
theorem d_law_969 : decode b_law 969 = .ok (.aload_n 2, 1) := by decide +kernel
theorem d_law_970 : decode b_law 970 = .ok (.aload_n 0, 1) := by decide +kernel
theorem d_law_971 : decode b_law 971 = .ok (.iload_n 3, 1) := by decide +kernel
theorem d_law_972 : decode b_law 972 = .ok (.iconst 1, 1) := by decide +kernel
theorem d_law_973 : decode b_law 973 = .ok (.iadd, 1) := by decide +kernel
theorem d_law_974 : decode b_law 974 = .ok (.iaload, 1) := by decide +kernel
theorem d_law_975 : decode b_law 975 = .ok (.aload_n 0, 1) := by decide +kernel
theorem d_law_976 : decode b_law 976 = .ok (.iload_n 3, 1) := by decide +kernel
theorem d_law_977 : decode b_law 977 = .ok (.iconst 2, 1) := by decide +kernel
theorem d_law_978 : decode b_law 978 = .ok (.iadd, 1) := by decide +kernel
theorem d_law_979 : decode b_law 979 = .ok (.iaload, 1) := by decide +kernel
theorem d_law_980 : decode b_law 980 = .ok (.aload_n 0, 1) := by decide +kernel
theorem d_law_981 : decode b_law 981 = .ok (.iload_n 3, 1) := by decide +kernel
theorem d_law_982 : decode b_law 982 = .ok (.iconst 3, 1) := by decide +kernel
theorem d_law_983 : decode b_law 983 = .ok (.iadd, 1) := by decide +kernel
theorem d_law_984 : decode b_law 984 = .ok (.iaload, 1) := by decide +kernel
theorem d_law_985 : decode b_law 985 = .ok (.invokevirtual 117, 3) := by decide +kernel
theorem d_law_988 : decode b_law 988 = .ok (.if_icmp .eq 737, 3) := by decide +kernel
theorem d_law_991 : decode b_law 991 = .ok (.iconst 0, 1) := by decide +kernel
theorem d_law_992 : decode b_law 992 = .ok (.ireturn, 1) := by decide +kernel
theorem d_law_993 : decode b_law 993 = .ok (.aload_n 1, 1) := by decide +kernel
theorem d_law_994 : decode b_law 994 = .ok (.aload_n 0, 1) := by decide +kernel
theorem d_law_995 : decode b_law 995 = .ok (.iload_n 3, 1) := by decide +kernel
theorem d_law_996 : decode b_law 996 = .ok (.iconst 1, 1) := by decide +kernel
theorem d_law_997 : decode b_law 997 = .ok (.iadd, 1) := by decide +kernel
theorem d_law_998 : decode b_law 998 = .ok (.iaload, 1) := by decide +kernel
theorem d_law_999 : decode b_law 999 = .ok (.aload_n 0, 1) := by decide +kernel
theorem d_law_1000 : decode b_law 1000 = .ok (.iload_n 3, 1) := by decide +kernel
theorem d_law_1001 : decode b_law 1001 = .ok (.iconst 2, 1) := by decide +kernel
theorem d_law_1002 : decode b_law 1002 = .ok (.iadd, 1) := by decide +kernel
theorem d_law_1003 : decode b_law 1003 = .ok (.iaload, 1) := by decide +kernel
theorem d_law_1004 : decode b_law 1004 = .ok (.invokevirtual 118, 3) := by decide +kernel
theorem d_law_1007 : decode b_law 1007 = .ok (.aload_n 2, 1) := by decide +kernel
theorem d_law_1008 : decode b_law 1008 = .ok (.aload_n 0, 1) := by decide +kernel
theorem d_law_1009 : decode b_law 1009 = .ok (.iload_n 3, 1) := by decide +kernel
theorem d_law_1010 : decode b_law 1010 = .ok (.iconst 1, 1) := by decide +kernel
theorem d_law_1011 : decode b_law 1011 = .ok (.iadd, 1) := by decide +kernel
theorem d_law_1012 : decode b_law 1012 = .ok (.iaload, 1) := by decide +kernel
theorem d_law_1013 : decode b_law 1013 = .ok (.aload_n 0, 1) := by decide +kernel
theorem d_law_1014 : decode b_law 1014 = .ok (.iload_n 3, 1) := by decide +kernel
theorem d_law_1015 : decode b_law 1015 = .ok (.iconst 2, 1) := by decide +kernel
theorem d_law_1016 : decode b_law 1016 = .ok (.iadd, 1) := by decide +kernel
theorem d_law_1017 : decode b_law 1017 = .ok (.iaload, 1) := by decide +kernel
theorem d_law_1018 : decode b_law 1018 = .ok (.invokevirtual 121, 3) := by decide +kernel
theorem d_law_1021 : decode b_law 1021 = .ok (.if_icmp .eq 704, 3) := by decide +kernel
theorem d_law_1024 : decode b_law 1024 = .ok (.iconst 0, 1) := by decide +kernel
theorem d_law_1025 : decode b_law 1025 = .ok (.ireturn, 1) := by decide +kernel
theorem d_law_1026 : decode b_law 1026 = .ok (.aload_n 1, 1) := by decide +kernel
theorem d_law_1027 : decode b_law 1027 = .ok (.aload_n 0, 1) := by decide +kernel
theorem d_law_1028 : decode b_law 1028 = .ok (.iload_n 3, 1) := by decide +kernel
theorem d_law_1029 : decode b_law 1029 = .ok (.iconst 1, 1) := by decide +kernel
theorem d_law_1030 : decode b_law 1030 = .ok (.iadd, 1) := by decide +kernel
theorem d_law_1031 : decode b_law 1031 = .ok (.iaload, 1) := by decide +kernel
theorem d_law_1032 : decode b_law 1032 = .ok (.aload_n 0, 1) := by decide +kernel
theorem d_law_1033 : decode b_law 1033 = .ok (.iload_n 3, 1) := by decide +kernel
theorem d_law_1034 : decode b_law 1034 = .ok (.iconst 2, 1) := by decide +kernel
theorem d_law_1035 : decode b_law 1035 = .ok (.iadd, 1) := by decide +kernel
theorem d_law_1036 : decode b_law 1036 = .ok (.iaload, 1) := by decide +kernel
theorem d_law_1037 : decode b_law 1037 = .ok (.invokevirtual 122, 3) := by decide +kernel
theorem d_law_1040 : decode b_law 1040 = .ok (.aload_n 2, 1) := by decide +kernel
theorem d_law_1041 : decode b_law 1041 = .ok (.aload_n 0, 1) := by decide +kernel
theorem d_law_1042 : decode b_law 1042 = .ok (.iload_n 3, 1) := by decide +kernel
theorem d_law_1043 : decode b_law 1043 = .ok (.iconst 1, 1) := by decide +kernel
theorem d_law_1044 : decode b_law 1044 = .ok (.iadd, 1) := by decide +kernel
theorem d_law_1045 : decode b_law 1045 = .ok (.iaload, 1) := by decide +kernel
theorem d_law_1046 : decode b_law 1046 = .ok (.aload_n 0, 1) := by decide +kernel
theorem d_law_1047 : decode b_law 1047 = .ok (.iload_n 3, 1) := by decide +kernel
theorem d_law_1048 : decode b_law 1048 = .ok (.iconst 2, 1) := by decide +kernel
theorem d_law_1049 : decode b_law 1049 = .ok (.iadd, 1) := by decide +kernel
theorem d_law_1050 : decode b_law 1050 = .ok (.iaload, 1) := by decide +kernel
theorem d_law_1051 : decode b_law 1051 = .ok (.invokevirtual 125, 3) := by decide +kernel
theorem d_law_1054 : decode b_law 1054 = .ok (.if_icmp .eq 671, 3) := by decide +kernel
theorem d_law_1057 : decode b_law 1057 = .ok (.iconst 0, 1) := by decide +kernel
theorem d_law_1058 : decode b_law 1058 = .ok (.ireturn, 1) := by decide +kernel
theorem d_law_1059 : decode b_law 1059 = .ok (.aload_n 1, 1) := by decide +kernel
theorem d_law_1060 : decode b_law 1060 = .ok (.aload_n 0, 1) := by decide +kernel
theorem d_law_1061 : decode b_law 1061 = .ok (.iload_n 3, 1) := by decide +kernel
theorem d_law_1062 : decode b_law 1062 = .ok (.iconst 1, 1) := by decide +kernel
theorem d_law_1063 : decode b_law 1063 = .ok (.iadd, 1) := by decide +kernel
theorem d_law_1064 : decode b_law 1064 = .ok (.iaload, 1) := by decide +kernel
theorem d_law_1065 : decode b_law 1065 = .ok (.aload_n 0, 1) := by decide +kernel
theorem d_law_1066 : decode b_law 1066 = .ok (.iload_n 3, 1) := by decide +kernel
theorem d_law_1067 : decode b_law 1067 = .ok (.iconst 2, 1) := by decide +kernel
theorem d_law_1068 : decode b_law 1068 = .ok (.iadd, 1) := by decide +kernel
theorem d_law_1069 : decode b_law 1069 = .ok (.iaload, 1) := by decide +kernel
theorem d_law_1070 : decode b_law 1070 = .ok (.invokevirtual 126, 3) := by decide +kernel
theorem d_law_1073 : decode b_law 1073 = .ok (.aload_n 2, 1) := by decide +kernel
theorem d_law_1074 : decode b_law 1074 = .ok (.aload_n 0, 1) := by decide +kernel
theorem d_law_1075 : decode b_law 1075 = .ok (.iload_n 3, 1) := by decide +kernel
theorem d_law_1076 : decode b_law 1076 = .ok (.iconst 1, 1) := by decide +kernel
theorem d_law_1077 : decode b_law 1077 = .ok (.iadd, 1) := by decide +kernel
theorem d_law_1078 : decode b_law 1078 = .ok (.iaload, 1) := by decide +kernel
theorem d_law_1079 : decode b_law 1079 = .ok (.aload_n 0, 1) := by decide +kernel
theorem d_law_1080 : decode b_law 1080 = .ok (.iload_n 3, 1) := by decide +kernel
theorem d_law_1081 : decode b_law 1081 = .ok (.iconst 2, 1) := by decide +kernel
theorem d_law_1082 : decode b_law 1082 = .ok (.iadd, 1) := by decide +kernel
theorem d_law_1083 : decode b_law 1083 = .ok (.iaload, 1) := by decide +kernel
theorem d_law_1084 : decode b_law 1084 = .ok (.invokevirtual 129, 3) := by decide +kernel
theorem d_law_1087 : decode b_law 1087 = .ok (.if_icmp .eq 638, 3) := by decide +kernel
theorem d_law_1090 : decode b_law 1090 = .ok (.iconst 0, 1) := by decide +kernel
theorem d_law_1091 : decode b_law 1091 = .ok (.ireturn, 1) := by decide +kernel
theorem d_law_1092 : decode b_law 1092 = .ok (.aload_n 1, 1) := by decide +kernel
theorem d_law_1093 : decode b_law 1093 = .ok (.aload_n 0, 1) := by decide +kernel
theorem d_law_1094 : decode b_law 1094 = .ok (.iload_n 3, 1) := by decide +kernel
theorem d_law_1095 : decode b_law 1095 = .ok (.iconst 1, 1) := by decide +kernel
theorem d_law_1096 : decode b_law 1096 = .ok (.iadd, 1) := by decide +kernel
theorem d_law_1097 : decode b_law 1097 = .ok (.iaload, 1) := by decide +kernel
theorem d_law_1098 : decode b_law 1098 = .ok (.aload_n 0, 1) := by decide +kernel
theorem d_law_1099 : decode b_law 1099 = .ok (.iload_n 3, 1) := by decide +kernel
theorem d_law_1100 : decode b_law 1100 = .ok (.iconst 2, 1) := by decide +kernel
theorem d_law_1101 : decode b_law 1101 = .ok (.iadd, 1) := by decide +kernel
theorem d_law_1102 : decode b_law 1102 = .ok (.iaload, 1) := by decide +kernel
theorem d_law_1103 : decode b_law 1103 = .ok (.invokevirtual 130, 3) := by decide +kernel
theorem d_law_1106 : decode b_law 1106 = .ok (.aload_n 2, 1) := by decide +kernel
theorem d_law_1107 : decode b_law 1107 = .ok (.aload_n 0, 1) := by decide +kernel
theorem d_law_1108 : decode b_law 1108 = .ok (.iload_n 3, 1) := by decide +kernel
theorem d_law_1109 : decode b_law 1109 = .ok (.iconst 1, 1) := by decide +kernel
theorem d_law_1110 : decode b_law 1110 = .ok (.iadd, 1) := by decide +kernel
theorem d_law_1111 : decode b_law 1111 = .ok (.iaload, 1) := by decide +kernel
theorem d_law_1112 : decode b_law 1112 = .ok (.aload_n 0, 1) := by decide +kernel
theorem d_law_1113 : decode b_law 1113 = .ok (.iload_n 3, 1) := by decide +kernel
theorem d_law_1114 : decode b_law 1114 = .ok (.iconst 2, 1) := by decide +kernel
theorem d_law_1115 : decode b_law 1115 = .ok (.iadd, 1) := by decide +kernel
theorem d_law_1116 : decode b_law 1116 = .ok (.iaload, 1) := by decide +kernel
theorem d_law_1117 : decode b_law 1117 = .ok (.invokevirtual 133, 3) := by decide +kernel
theorem d_law_1120 : decode b_law 1120 = .ok (.if_icmp .eq 605, 3) := by decide +kernel
theorem d_law_1123 : decode b_law 1123 = .ok (.iconst 0, 1) := by decide +kernel
theorem d_law_1124 : decode b_law 1124 = .ok (.ireturn, 1) := by decide +kernel
theorem d_law_1125 : decode b_law 1125 = .ok (.aload_n 1, 1) := by decide +kernel
theorem d_law_1126 : decode b_law 1126 = .ok (.aload_n 0, 1) := by decide +kernel
theorem d_law_1127 : decode b_law 1127 = .ok (.iload_n 3, 1) := by decide +kernel
theorem d_law_1128 : decode b_law 1128 = .ok (.iconst 1, 1) := by decide +kernel
theorem d_law_1129 : decode b_law 1129 = .ok (.iadd, 1) := by decide +kernel
theorem d_law_1130 : decode b_law 1130 = .ok (.iaload, 1) := by decide +kernel
theorem d_law_1131 : decode b_law 1131 = .ok (.invokevirtual 134, 3) := by decide +kernel
theorem d_law_1134 : decode b_law 1134 = .ok (.aload_n 2, 1) := by decide +kernel
theorem d_law_1135 : decode b_law 1135 = .ok (.aload_n 0, 1) := by decide +kernel
theorem d_law_1136 : decode b_law 1136 = .ok (.iload_n 3, 1) := by decide +kernel
theorem d_law_1137 : decode b_law 1137 = .ok (.iconst 1, 1) := by decide +kernel
theorem d_law_1138 : decode b_law 1138 = .ok (.iadd, 1) := by decide +kernel
theorem d_law_1139 : decode b_law 1139 = .ok (.iaload, 1) := by decide +kernel
theorem d_law_1140 : decode b_law 1140 = .ok (.invokevirtual 137, 3) := by decide +kernel
theorem d_law_1143 : decode b_law 1143 = .ok (.if_icmp .eq 582, 3) := by decide +kernel
theorem d_law_1146 : decode b_law 1146 = .ok (.iconst 0, 1) := by decide +kernel
theorem d_law_1147 : decode b_law 1147 = .ok (.ireturn, 1) := by decide +kernel
theorem d_law_1148 : decode b_law 1148 = .ok (.aload_n 1, 1) := by decide +kernel
theorem d_law_1149 : decode b_law 1149 = .ok (.aload_n 0, 1) := by decide +kernel
theorem d_law_1150 : decode b_law 1150 = .ok (.iload_n 3, 1) := by decide +kernel
theorem d_law_1151 : decode b_law 1151 = .ok (.iconst 1, 1) := by decide +kernel
theorem d_law_1152 : decode b_law 1152 = .ok (.iadd, 1) := by decide +kernel
theorem d_law_1153 : decode b_law 1153 = .ok (.iaload, 1) := by decide +kernel
theorem d_law_1154 : decode b_law 1154 = .ok (.aload_n 0, 1) := by decide +kernel
theorem d_law_1155 : decode b_law 1155 = .ok (.iload_n 3, 1) := by decide +kernel
theorem d_law_1156 : decode b_law 1156 = .ok (.iconst 2, 1) := by decide +kernel
theorem d_law_1157 : decode b_law 1157 = .ok (.iadd, 1) := by decide +kernel
theorem d_law_1158 : decode b_law 1158 = .ok (.iaload, 1) := by decide +kernel
theorem d_law_1159 : decode b_law 1159 = .ok (.aload_n 0, 1) := by decide +kernel
theorem d_law_1160 : decode b_law 1160 = .ok (.iload_n 3, 1) := by decide +kernel
theorem d_law_1161 : decode b_law 1161 = .ok (.iconst 3, 1) := by decide +kernel
theorem d_law_1162 : decode b_law 1162 = .ok (.iadd, 1) := by decide +kernel
theorem d_law_1163 : decode b_law 1163 = .ok (.iaload, 1) := by decide +kernel
theorem d_law_1164 : decode b_law 1164 = .ok (.invokevirtual 138, 3) := by decide +kernel
theorem d_law_1167 : decode b_law 1167 = .ok (.aload_n 2, 1) := by decide +kernel
theorem d_law_1168 : decode b_law 1168 = .ok (.aload_n 0, 1) := by decide +kernel
theorem d_law_1169 : decode b_law 1169 = .ok (.iload_n 3, 1) := by decide +kernel
theorem d_law_1170 : decode b_law 1170 = .ok (.iconst 1, 1) := by decide +kernel
theorem d_law_1171 : decode b_law 1171 = .ok (.iadd, 1) := by decide +kernel
theorem d_law_1172 : decode b_law 1172 = .ok (.iaload, 1) := by decide +kernel
theorem d_law_1173 : decode b_law 1173 = .ok (.aload_n 0, 1) := by decide +kernel
theorem d_law_1174 : decode b_law 1174 = .ok (.iload_n 3, 1) := by decide +kernel
theorem d_law_1175 : decode b_law 1175 = .ok (.iconst 2, 1) := by decide +kernel
theorem d_law_1176 : decode b_law 1176 = .ok (.iadd, 1) := by decide +kernel
theorem d_law_1177 : decode b_law 1177 = .ok (.iaload, 1) := by decide +kernel
theorem d_law_1178 : decode b_law 1178 = .ok (.aload_n 0, 1) := by decide +kernel
theorem d_law_1179 : decode b_law 1179 = .ok (.iload_n 3, 1) := by decide +kernel
theorem d_law_1180 : decode b_law 1180 = .ok (.iconst 3, 1) := by decide +kernel
theorem d_law_1181 : decode b_law 1181 = .ok (.iadd, 1) := by decide +kernel
theorem d_law_1182 : decode b_law 1182 = .ok (.iaload, 1) := by decide +kernel
theorem d_law_1183 : decode b_law 1183 = .ok (.invokevirtual 141, 3) := by decide +kernel
theorem d_law_1186 : decode b_law 1186 = .ok (.if_icmp .eq 539, 3) := by decide +kernel
theorem d_law_1189 : decode b_law 1189 = .ok (.iconst 0, 1) := by decide +kernel
theorem d_law_1190 : decode b_law 1190 = .ok (.ireturn, 1) := by decide +kernel
theorem d_law_1191 : decode b_law 1191 = .ok (.aload_n 1, 1) := by decide +kernel
theorem d_law_1192 : decode b_law 1192 = .ok (.aload_n 0, 1) := by decide +kernel
theorem d_law_1193 : decode b_law 1193 = .ok (.iload_n 3, 1) := by decide +kernel
theorem d_law_1194 : decode b_law 1194 = .ok (.iconst 1, 1) := by decide +kernel
theorem d_law_1195 : decode b_law 1195 = .ok (.iadd, 1) := by decide +kernel
theorem d_law_1196 : decode b_law 1196 = .ok (.iaload, 1) := by decide +kernel
theorem d_law_1197 : decode b_law 1197 = .ok (.invokevirtual 142, 3) := by decide +kernel
theorem d_law_1200 : decode b_law 1200 = .ok (.aload_n 2, 1) := by decide +kernel
theorem d_law_1201 : decode b_law 1201 = .ok (.aload_n 0, 1) := by decide +kernel
theorem d_law_1202 : decode b_law 1202 = .ok (.iload_n 3, 1) := by decide +kernel
theorem d_law_1203 : decode b_law 1203 = .ok (.iconst 1, 1) := by decide +kernel
theorem d_law_1204 : decode b_law 1204 = .ok (.iadd, 1) := by decide +kernel
theorem d_law_1205 : decode b_law 1205 = .ok (.iaload, 1) := by decide +kernel
theorem d_law_1206 : decode b_law 1206 = .ok (.invokevirtual 145, 3) := by decide +kernel
theorem d_law_1209 : decode b_law 1209 = .ok (.if_icmp .eq 516, 3) := by decide +kernel
theorem d_law_1212 : decode b_law 1212 = .ok (.iconst 0, 1) := by decide +kernel
theorem d_law_1213 : decode b_law 1213 = .ok (.ireturn, 1) := by decide +kernel
theorem d_law_1214 : decode b_law 1214 = .ok (.aload_n 1, 1) := by decide +kernel
theorem d_law_1215 : decode b_law 1215 = .ok (.aload_n 0, 1) := by decide +kernel
theorem d_law_1216 : decode b_law 1216 = .ok (.iload_n 3, 1) := by decide +kernel
theorem d_law_1217 : decode b_law 1217 = .ok (.iconst 1, 1) := by decide +kernel
theorem d_law_1218 : decode b_law 1218 = .ok (.iadd, 1) := by decide +kernel
theorem d_law_1219 : decode b_law 1219 = .ok (.iaload, 1) := by decide +kernel
theorem d_law_1220 : decode b_law 1220 = .ok (.invokevirtual 146, 3) := by decide +kernel
theorem d_law_1223 : decode b_law 1223 = .ok (.aload_n 2, 1) := by decide +kernel
theorem d_law_1224 : decode b_law 1224 = .ok (.aload_n 0, 1) := by decide +kernel
theorem d_law_1225 : decode b_law 1225 = .ok (.iload_n 3, 1) := by decide +kernel
theorem d_law_1226 : decode b_law 1226 = .ok (.iconst 1, 1) := by decide +kernel
theorem d_law_1227 : decode b_law 1227 = .ok (.iadd, 1) := by decide +kernel
theorem d_law_1228 : decode b_law 1228 = .ok (.iaload, 1) := by decide +kernel
theorem d_law_1229 : decode b_law 1229 = .ok (.invokevirtual 149, 3) := by decide +kernel
theorem d_law_1232 : decode b_law 1232 = .ok (.if_icmp .eq 493, 3) := by decide +kernel
theorem d_law_1235 : decode b_law 1235 = .ok (.iconst 0, 1) := by decide +kernel
theorem d_law_1236 : decode b_law 1236 = .ok (.ireturn, 1) := by decide +kernel
theorem d_law_1237 : decode b_law 1237 = .ok (.aload_n 1, 1) := by decide +kernel
theorem d_law_1238 : decode b_law 1238 = .ok (.aload_n 0, 1) := by decide +kernel
theorem d_law_1239 : decode b_law 1239 = .ok (.iload_n 3, 1) := by decide +kernel
theorem d_law_1240 : decode b_law 1240 = .ok (.iconst 1, 1) := by decide +kernel
theorem d_law_1241 : decode b_law 1241 = .ok (.iadd, 1) := by decide +kernel
theorem d_law_1242 : decode b_law 1242 = .ok (.iaload, 1) := by decide +kernel
theorem d_law_1243 : decode b_law 1243 = .ok (.invokevirtual 150, 3) := by decide +kernel
theorem d_law_1246 : decode b_law 1246 = .ok (.aload_n 2, 1) := by decide +kernel
theorem d_law_1247 : decode b_law 1247 = .ok (.aload_n 0, 1) := by decide +kernel
theorem d_law_1248 : decode b_law 1248 = .ok (.iload_n 3, 1) := by decide +kernel
theorem d_law_1249 : decode b_law 1249 = .ok (.iconst 1, 1) := by decide +kernel
theorem d_law_1250 : decode b_law 1250 = .ok (.iadd, 1) := by decide +kernel
theorem d_law_1251 : decode b_law 1251 = .ok (.iaload, 1) := by decide +kernel
theorem d_law_1252 : decode b_law 1252 = .ok (.invokevirtual 153, 3) := by decide +kernel
theorem d_law_1255 : decode b_law 1255 = .ok (.if_icmp .eq 470, 3) := by decide +kernel
theorem d_law_1258 : decode b_law 1258 = .ok (.iconst 0, 1) := by decide +kernel
theorem d_law_1259 : decode b_law 1259 = .ok (.ireturn, 1) := by decide +kernel
theorem d_law_1260 : decode b_law 1260 = .ok (.aload_n 1, 1) := by decide +kernel
theorem d_law_1261 : decode b_law 1261 = .ok (.aload_n 0, 1) := by decide +kernel
theorem d_law_1262 : decode b_law 1262 = .ok (.iload_n 3, 1) := by decide +kernel
theorem d_law_1263 : decode b_law 1263 = .ok (.iconst 1, 1) := by decide +kernel
theorem d_law_1264 : decode b_law 1264 = .ok (.iadd, 1) := by decide +kernel
theorem d_law_1265 : decode b_law 1265 = .ok (.iaload, 1) := by decide +kernel
theorem d_law_1266 : decode b_law 1266 = .ok (.invokevirtual 154, 3) := by decide +kernel
theorem d_law_1269 : decode b_law 1269 = .ok (.aload_n 2, 1) := by decide +kernel
theorem d_law_1270 : decode b_law 1270 = .ok (.aload_n 0, 1) := by decide +kernel
theorem d_law_1271 : decode b_law 1271 = .ok (.iload_n 3, 1) := by decide +kernel
theorem d_law_1272 : decode b_law 1272 = .ok (.iconst 1, 1) := by decide +kernel
theorem d_law_1273 : decode b_law 1273 = .ok (.iadd, 1) := by decide +kernel
theorem d_law_1274 : decode b_law 1274 = .ok (.iaload, 1) := by decide +kernel
theorem d_law_1275 : decode b_law 1275 = .ok (.invokevirtual 157, 3) := by decide +kernel
theorem d_law_1278 : decode b_law 1278 = .ok (.if_icmp .eq 447, 3) := by decide +kernel
theorem d_law_1281 : decode b_law 1281 = .ok (.iconst 0, 1) := by decide +kernel
theorem d_law_1282 : decode b_law 1282 = .ok (.ireturn, 1) := by decide +kernel
theorem d_law_1283 : decode b_law 1283 = .ok (.aload_n 1, 1) := by decide +kernel
theorem d_law_1284 : decode b_law 1284 = .ok (.aload_n 0, 1) := by decide +kernel
theorem d_law_1285 : decode b_law 1285 = .ok (.iload_n 3, 1) := by decide +kernel
theorem d_law_1286 : decode b_law 1286 = .ok (.iconst 1, 1) := by decide +kernel
theorem d_law_1287 : decode b_law 1287 = .ok (.iadd, 1) := by decide +kernel
theorem d_law_1288 : decode b_law 1288 = .ok (.iaload, 1) := by decide +kernel
theorem d_law_1289 : decode b_law 1289 = .ok (.invokevirtual 158, 3) := by decide +kernel
theorem d_law_1292 : decode b_law 1292 = .ok (.aload_n 2, 1) := by decide +kernel
theorem d_law_1293 : decode b_law 1293 = .ok (.aload_n 0, 1) := by decide +kernel
theorem d_law_1294 : decode b_law 1294 = .ok (.iload_n 3, 1) := by decide +kernel
theorem d_law_1295 : decode b_law 1295 = .ok (.iconst 1, 1) := by decide +kernel
theorem d_law_1296 : decode b_law 1296 = .ok (.iadd, 1) := by decide +kernel
theorem d_law_1297 : decode b_law 1297 = .ok (.iaload, 1) := by decide +kernel
theorem d_law_1298 : decode b_law 1298 = .ok (.invokevirtual 161, 3) := by decide +kernel
theorem d_law_1301 : decode b_law 1301 = .ok (.if_icmp .eq 424, 3) := by decide +kernel
theorem d_law_1304 : decode b_law 1304 = .ok (.iconst 0, 1) := by decide +kernel
theorem d_law_1305 : decode b_law 1305 = .ok (.ireturn, 1) := by decide +kernel
theorem d_law_1306 : decode b_law 1306 = .ok (.aload_n 1, 1) := by decide +kernel
theorem d_law_1307 : decode b_law 1307 = .ok (.aload_n 0, 1) := by decide +kernel
theorem d_law_1308 : decode b_law 1308 = .ok (.iload_n 3, 1) := by decide +kernel
theorem d_law_1309 : decode b_law 1309 = .ok (.iconst 1, 1) := by decide +kernel
theorem d_law_1310 : decode b_law 1310 = .ok (.iadd, 1) := by decide +kernel
theorem d_law_1311 : decode b_law 1311 = .ok (.iaload, 1) := by decide +kernel
theorem d_law_1312 : decode b_law 1312 = .ok (.invokevirtual 162, 3) := by decide +kernel
theorem d_law_1315 : decode b_law 1315 = .ok (.aload_n 2, 1) := by decide +kernel
theorem d_law_1316 : decode b_law 1316 = .ok (.aload_n 0, 1) := by decide +kernel
theorem d_law_1317 : decode b_law 1317 = .ok (.iload_n 3, 1) := by decide +kernel
theorem d_law_1318 : decode b_law 1318 = .ok (.iconst 1, 1) := by decide +kernel
theorem d_law_1319 : decode b_law 1319 = .ok (.iadd, 1) := by decide +kernel
theorem d_law_1320 : decode b_law 1320 = .ok (.iaload, 1) := by decide +kernel
theorem d_law_1321 : decode b_law 1321 = .ok (.invokevirtual 165, 3) := by decide +kernel
theorem d_law_1324 : decode b_law 1324 = .ok (.if_icmp .eq 401, 3) := by decide +kernel
theorem d_law_1327 : decode b_law 1327 = .ok (.iconst 0, 1) := by decide +kernel
theorem d_law_1328 : decode b_law 1328 = .ok (.ireturn, 1) := by decide +kernel
theorem d_law_1329 : decode b_law 1329 = .ok (.aload_n 1, 1) := by decide +kernel
theorem d_law_1330 : decode b_law 1330 = .ok (.aload_n 0, 1) := by decide +kernel
theorem d_law_1331 : decode b_law 1331 = .ok (.iload_n 3, 1) := by decide +kernel
theorem d_law_1332 : decode b_law 1332 = .ok (.iconst 1, 1) := by decide +kernel
theorem d_law_1333 : decode b_law 1333 = .ok (.iadd, 1) := by decide +kernel
theorem d_law_1334 : decode b_law 1334 = .ok (.iaload, 1) := by decide +kernel
theorem d_law_1335 : decode b_law 1335 = .ok (.invokevirtual 166, 3) := by decide +kernel
theorem d_law_1338 : decode b_law 1338 = .ok (.aload_n 2, 1) := by decide +kernel
theorem d_law_1339 : decode b_law 1339 = .ok (.aload_n 0, 1) := by decide +kernel
theorem d_law_1340 : decode b_law 1340 = .ok (.iload_n 3, 1) := by decide +kernel
theorem d_law_1341 : decode b_law 1341 = .ok (.iconst 1, 1) := by decide +kernel
theorem d_law_1342 : decode b_law 1342 = .ok (.iadd, 1) := by decide +kernel
theorem d_law_1343 : decode b_law 1343 = .ok (.iaload, 1) := by decide +kernel
theorem d_law_1344 : decode b_law 1344 = .ok (.invokevirtual 169, 3) := by decide +kernel
theorem d_law_1347 : decode b_law 1347 = .ok (.if_icmp .eq 378, 3) := by decide +kernel
theorem d_law_1350 : decode b_law 1350 = .ok (.iconst 0, 1) := by decide +kernel
theorem d_law_1351 : decode b_law 1351 = .ok (.ireturn, 1) := by decide +kernel
theorem d_law_1352 : decode b_law 1352 = .ok (.aload_n 1, 1) := by decide +kernel
theorem d_law_1353 : decode b_law 1353 = .ok (.invokevirtual 170, 3) := by decide +kernel
theorem d_law_1356 : decode b_law 1356 = .ok (.aload_n 2, 1) := by decide +kernel
theorem d_law_1357 : decode b_law 1357 = .ok (.invokevirtual 173, 3) := by decide +kernel
theorem d_law_1360 : decode b_law 1360 = .ok (.if_icmp .eq 365, 3) := by decide +kernel
theorem d_law_1363 : decode b_law 1363 = .ok (.iconst 0, 1) := by decide +kernel
theorem d_law_1364 : decode b_law 1364 = .ok (.ireturn, 1) := by decide +kernel
theorem d_law_1365 : decode b_law 1365 = .ok (.aload_n 1, 1) := by decide +kernel
theorem d_law_1366 : decode b_law 1366 = .ok (.aload_n 0, 1) := by decide +kernel
theorem d_law_1367 : decode b_law 1367 = .ok (.iload_n 3, 1) := by decide +kernel
theorem d_law_1368 : decode b_law 1368 = .ok (.iconst 1, 1) := by decide +kernel
theorem d_law_1369 : decode b_law 1369 = .ok (.iadd, 1) := by decide +kernel
theorem d_law_1370 : decode b_law 1370 = .ok (.iaload, 1) := by decide +kernel
theorem d_law_1371 : decode b_law 1371 = .ok (.aload_n 0, 1) := by decide +kernel
theorem d_law_1372 : decode b_law 1372 = .ok (.iload_n 3, 1) := by decide +kernel
theorem d_law_1373 : decode b_law 1373 = .ok (.iconst 2, 1) := by decide +kernel
theorem d_law_1374 : decode b_law 1374 = .ok (.iadd, 1) := by decide +kernel
theorem d_law_1375 : decode b_law 1375 = .ok (.iaload, 1) := by decide +kernel
theorem d_law_1376 : decode b_law 1376 = .ok (.aload_n 0, 1) := by decide +kernel
theorem d_law_1377 : decode b_law 1377 = .ok (.iload_n 3, 1) := by decide +kernel
theorem d_law_1378 : decode b_law 1378 = .ok (.iconst 3, 1) := by decide +kernel
theorem d_law_1379 : decode b_law 1379 = .ok (.iadd, 1) := by decide +kernel
theorem d_law_1380 : decode b_law 1380 = .ok (.iaload, 1) := by decide +kernel
theorem d_law_1381 : decode b_law 1381 = .ok (.invokevirtual 174, 3) := by decide +kernel
theorem d_law_1384 : decode b_law 1384 = .ok (.aload_n 2, 1) := by decide +kernel
theorem d_law_1385 : decode b_law 1385 = .ok (.aload_n 0, 1) := by decide +kernel
theorem d_law_1386 : decode b_law 1386 = .ok (.iload_n 3, 1) := by decide +kernel
theorem d_law_1387 : decode b_law 1387 = .ok (.iconst 1, 1) := by decide +kernel
theorem d_law_1388 : decode b_law 1388 = .ok (.iadd, 1) := by decide +kernel
theorem d_law_1389 : decode b_law 1389 = .ok (.iaload, 1) := by decide +kernel
theorem d_law_1390 : decode b_law 1390 = .ok (.aload_n 0, 1) := by decide +kernel
theorem d_law_1391 : decode b_law 1391 = .ok (.iload_n 3, 1) := by decide +kernel
theorem d_law_1392 : decode b_law 1392 = .ok (.iconst 2, 1) := by decide +kernel
theorem d_law_1393 : decode b_law 1393 = .ok (.iadd, 1) := by decide +kernel
theorem d_law_1394 : decode b_law 1394 = .ok (.iaload, 1) := by decide +kernel
theorem d_law_1395 : decode b_law 1395 = .ok (.aload_n 0, 1) := by decide +kernel
theorem d_law_1396 : decode b_law 1396 = .ok (.iload_n 3, 1) := by decide +kernel
theorem d_law_1397 : decode b_law 1397 = .ok (.iconst 3, 1) := by decide +kernel
theorem d_law_1398 : decode b_law 1398 = .ok (.iadd, 1) := by decide +kernel
theorem d_law_1399 : decode b_law 1399 = .ok (.iaload, 1) := by decide +kernel
theorem d_law_1400 : decode b_law 1400 = .ok (.invokevirtual 177, 3) := by decide +kernel
theorem d_law_1403 : decode b_law 1403 = .ok (.if_icmp .eq 322, 3) := by decide +kernel
theorem d_law_1406 : decode b_law 1406 = .ok (.iconst 0, 1) := by decide +kernel
theorem d_law_1407 : decode b_law 1407 = .ok (.ireturn, 1) := by decide +kernel
theorem d_law_1408 : decode b_law 1408 = .ok (.aload_n 1, 1) := by decide +kernel
theorem d_law_1409 : decode b_law 1409 = .ok (.aload_n 0, 1) := by decide +kernel
theorem d_law_1410 : decode b_law 1410 = .ok (.iload_n 3, 1) := by decide +kernel
theorem d_law_1411 : decode b_law 1411 = .ok (.iconst 1, 1) := by decide +kernel
theorem d_law_1412 : decode b_law 1412 = .ok (.iadd, 1) := by decide +kernel
theorem d_law_1413 : decode b_law 1413 = .ok (.iaload, 1) := by decide +kernel
theorem d_law_1414 : decode b_law 1414 = .ok (.aload_n 0, 1) := by decide +kernel
theorem d_law_1415 : decode b_law 1415 = .ok (.iload_n 3, 1) := by decide +kernel
theorem d_law_1416 : decode b_law 1416 = .ok (.iconst 2, 1) := by decide +kernel
theorem d_law_1417 : decode b_law 1417 = .ok (.iadd, 1) := by decide +kernel
theorem d_law_1418 : decode b_law 1418 = .ok (.iaload, 1) := by decide +kernel
theorem d_law_1419 : decode b_law 1419 = .ok (.aload_n 0, 1) := by decide +kernel
theorem d_law_1420 : decode b_law 1420 = .ok (.iload_n 3, 1) := by decide +kernel
theorem d_law_1421 : decode b_law 1421 = .ok (.iconst 3, 1) := by decide +kernel
theorem d_law_1422 : decode b_law 1422 = .ok (.iadd, 1) := by decide +kernel
theorem d_law_1423 : decode b_law 1423 = .ok (.iaload, 1) := by decide +kernel
theorem d_law_1424 : decode b_law 1424 = .ok (.aload_n 0, 1) := by decide +kernel
theorem d_law_1425 : decode b_law 1425 = .ok (.iload_n 3, 1) := by decide +kernel
theorem d_law_1426 : decode b_law 1426 = .ok (.iconst 4, 1) := by decide +kernel
theorem d_law_1427 : decode b_law 1427 = .ok (.iadd, 1) := by decide +kernel
theorem d_law_1428 : decode b_law 1428 = .ok (.iaload, 1) := by decide +kernel
theorem d_law_1429 : decode b_law 1429 = .ok (.invokevirtual 178, 3) := by decide +kernel
theorem d_law_1432 : decode b_law 1432 = .ok (.aload_n 2, 1) := by decide +kernel
theorem d_law_1433 : decode b_law 1433 = .ok (.aload_n 0, 1) := by decide +kernel
theorem d_law_1434 : decode b_law 1434 = .ok (.iload_n 3, 1) := by decide +kernel
theorem d_law_1435 : decode b_law 1435 = .ok (.iconst 1, 1) := by decide +kernel
theorem d_law_1436 : decode b_law 1436 = .ok (.iadd, 1) := by decide +kernel
theorem d_law_1437 : decode b_law 1437 = .ok (.iaload, 1) := by decide +kernel
theorem d_law_1438 : decode b_law 1438 = .ok (.aload_n 0, 1) := by decide +kernel
theorem d_law_1439 : decode b_law 1439 = .ok (.iload_n 3, 1) := by decide +kernel
theorem d_law_1440 : decode b_law 1440 = .ok (.iconst 2, 1) := by decide +kernel
theorem d_law_1441 : decode b_law 1441 = .ok (.iadd, 1) := by decide +kernel
theorem d_law_1442 : decode b_law 1442 = .ok (.iaload, 1) := by decide +kernel
theorem d_law_1443 : decode b_law 1443 = .ok (.aload_n 0, 1) := by decide +kernel
theorem d_law_1444 : decode b_law 1444 = .ok (.iload_n 3, 1) := by decide +kernel
theorem d_law_1445 : decode b_law 1445 = .ok (.iconst 3, 1) := by decide +kernel
theorem d_law_1446 : decode b_law 1446 = .ok (.iadd, 1) := by decide +kernel
theorem d_law_1447 : decode b_law 1447 = .ok (.iaload, 1) := by decide +kernel
theorem d_law_1448 : decode b_law 1448 = .ok (.aload_n 0, 1) := by decide +kernel
theorem d_law_1449 : decode b_law 1449 = .ok (.iload_n 3, 1) := by decide +kernel
theorem d_law_1450 : decode b_law 1450 = .ok (.iconst 4, 1) := by decide +kernel
theorem d_law_1451 : decode b_law 1451 = .ok (.iadd, 1) := by decide +kernel
theorem d_law_1452 : decode b_law 1452 = .ok (.iaload, 1) := by decide +kernel
theorem d_law_1453 : decode b_law 1453 = .ok (.invokevirtual 182, 3) := by decide +kernel
theorem d_law_1456 : decode b_law 1456 = .ok (.if_icmp .eq 269, 3) := by decide +kernel
theorem d_law_1459 : decode b_law 1459 = .ok (.iconst 0, 1) := by decide +kernel
theorem d_law_1460 : decode b_law 1460 = .ok (.ireturn, 1) := by decide +kernel
theorem d_law_1461 : decode b_law 1461 = .ok (.aload_n 1, 1) := by decide +kernel
theorem d_law_1462 : decode b_law 1462 = .ok (.aload_n 0, 1) := by decide +kernel
theorem d_law_1463 : decode b_law 1463 = .ok (.iload_n 3, 1) := by decide +kernel
theorem d_law_1464 : decode b_law 1464 = .ok (.iconst 1, 1) := by decide +kernel
theorem d_law_1465 : decode b_law 1465 = .ok (.iadd, 1) := by decide +kernel
theorem d_law_1466 : decode b_law 1466 = .ok (.iaload, 1) := by decide +kernel
theorem d_law_1467 : decode b_law 1467 = .ok (.aload_n 0, 1) := by decide +kernel
theorem d_law_1468 : decode b_law 1468 = .ok (.iload_n 3, 1) := by decide +kernel
theorem d_law_1469 : decode b_law 1469 = .ok (.iconst 2, 1) := by decide +kernel
theorem d_law_1470 : decode b_law 1470 = .ok (.iadd, 1) := by decide +kernel
theorem d_law_1471 : decode b_law 1471 = .ok (.iaload, 1) := by decide +kernel
theorem d_law_1472 : decode b_law 1472 = .ok (.aload_n 0, 1) := by decide +kernel
theorem d_law_1473 : decode b_law 1473 = .ok (.iload_n 3, 1) := by decide +kernel
theorem d_law_1474 : decode b_law 1474 = .ok (.iconst 3, 1) := by decide +kernel
theorem d_law_1475 : decode b_law 1475 = .ok (.iadd, 1) := by decide +kernel
theorem d_law_1476 : decode b_law 1476 = .ok (.iaload, 1) := by decide +kernel
theorem d_law_1477 : decode b_law 1477 = .ok (.aload_n 0, 1) := by decide +kernel
theorem d_law_1478 : decode b_law 1478 = .ok (.iload_n 3, 1) := by decide +kernel
theorem d_law_1479 : decode b_law 1479 = .ok (.iconst 4, 1) := by decide +kernel
theorem d_law_1480 : decode b_law 1480 = .ok (.iadd, 1) := by decide +kernel
theorem d_law_1481 : decode b_law 1481 = .ok (.iaload, 1) := by decide +kernel
theorem d_law_1482 : decode b_law 1482 = .ok (.invokevirtual 183, 3) := by decide +kernel
theorem d_law_1485 : decode b_law 1485 = .ok (.aload_n 2, 1) := by decide +kernel
theorem d_law_1486 : decode b_law 1486 = .ok (.aload_n 0, 1) := by decide +kernel
theorem d_law_1487 : decode b_law 1487 = .ok (.iload_n 3, 1) := by decide +kernel
theorem d_law_1488 : decode b_law 1488 = .ok (.iconst 1, 1) := by decide +kernel
theorem d_law_1489 : decode b_law 1489 = .ok (.iadd, 1) := by decide +kernel
theorem d_law_1490 : decode b_law 1490 = .ok (.iaload, 1) := by decide +kernel
theorem d_law_1491 : decode b_law 1491 = .ok (.aload_n 0, 1) := by decide +kernel
theorem d_law_1492 : decode b_law 1492 = .ok (.iload_n 3, 1) := by decide +kernel
theorem d_law_1493 : decode b_law 1493 = .ok (.iconst 2, 1) := by decide +kernel
theorem d_law_1494 : decode b_law 1494 = .ok (.iadd, 1) := by decide +kernel
theorem d_law_1495 : decode b_law 1495 = .ok (.iaload, 1) := by decide +kernel
theorem d_law_1496 : decode b_law 1496 = .ok (.aload_n 0, 1) := by decide +kernel
theorem d_law_1497 : decode b_law 1497 = .ok (.iload_n 3, 1) := by decide +kernel
theorem d_law_1498 : decode b_law 1498 = .ok (.iconst 3, 1) := by decide +kernel
theorem d_law_1499 : decode b_law 1499 = .ok (.iadd, 1) := by decide +kernel
theorem d_law_1500 : decode b_law 1500 = .ok (.iaload, 1) := by decide +kernel
theorem d_law_1501 : decode b_law 1501 = .ok (.aload_n 0, 1) := by decide +kernel
theorem d_law_1502 : decode b_law 1502 = .ok (.iload_n 3, 1) := by decide +kernel
theorem d_law_1503 : decode b_law 1503 = .ok (.iconst 4, 1) := by decide +kernel
theorem d_law_1504 : decode b_law 1504 = .ok (.iadd, 1) := by decide +kernel
theorem d_law_1505 : decode b_law 1505 = .ok (.iaload, 1) := by decide +kernel
theorem d_law_1506 : decode b_law 1506 = .ok (.invokevirtual 186, 3) := by decide +kernel
theorem d_law_1509 : decode b_law 1509 = .ok (.if_icmp .eq 216, 3) := by decide +kernel
theorem d_law_1512 : decode b_law 1512 = .ok (.iconst 0, 1) := by decide +kernel
theorem d_law_1513 : decode b_law 1513 = .ok (.ireturn, 1) := by decide +kernel
theorem d_law_1514 : decode b_law 1514 = .ok (.aload_n 1, 1) := by decide +kernel
theorem d_law_1515 : decode b_law 1515 = .ok (.aload_n 0, 1) := by decide +kernel
theorem d_law_1516 : decode b_law 1516 = .ok (.iload_n 3, 1) := by decide +kernel
theorem d_law_1517 : decode b_law 1517 = .ok (.iconst 1, 1) := by decide +kernel
theorem d_law_1518 : decode b_law 1518 = .ok (.iadd, 1) := by decide +kernel
theorem d_law_1519 : decode b_law 1519 = .ok (.iaload, 1) := by decide +kernel
theorem d_law_1520 : decode b_law 1520 = .ok (.aload_n 0, 1) := by decide +kernel
theorem d_law_1521 : decode b_law 1521 = .ok (.iload_n 3, 1) := by decide +kernel
theorem d_law_1522 : decode b_law 1522 = .ok (.iconst 2, 1) := by decide +kernel
theorem d_law_1523 : decode b_law 1523 = .ok (.iadd, 1) := by decide +kernel
theorem d_law_1524 : decode b_law 1524 = .ok (.iaload, 1) := by decide +kernel
theorem d_law_1525 : decode b_law 1525 = .ok (.invokevirtual 187, 3) := by decide +kernel
theorem d_law_1528 : decode b_law 1528 = .ok (.aload_n 2, 1) := by decide +kernel
theorem d_law_1529 : decode b_law 1529 = .ok (.aload_n 0, 1) := by decide +kernel
theorem d_law_1530 : decode b_law 1530 = .ok (.iload_n 3, 1) := by decide +kernel
theorem d_law_1531 : decode b_law 1531 = .ok (.iconst 1, 1) := by decide +kernel
theorem d_law_1532 : decode b_law 1532 = .ok (.iadd, 1) := by decide +kernel
theorem d_law_1533 : decode b_law 1533 = .ok (.iaload, 1) := by decide +kernel
theorem d_law_1534 : decode b_law 1534 = .ok (.aload_n 0, 1) := by decide +kernel
theorem d_law_1535 : decode b_law 1535 = .ok (.iload_n 3, 1) := by decide +kernel
theorem d_law_1536 : decode b_law 1536 = .ok (.iconst 2, 1) := by decide +kernel
theorem d_law_1537 : decode b_law 1537 = .ok (.iadd, 1) := by decide +kernel
theorem d_law_1538 : decode b_law 1538 = .ok (.iaload, 1) := by decide +kernel
theorem d_law_1539 : decode b_law 1539 = .ok (.invokevirtual 190, 3) := by decide +kernel
theorem d_law_1542 : decode b_law 1542 = .ok (.if_icmp .eq 183, 3) := by decide +kernel
theorem d_law_1545 : decode b_law 1545 = .ok (.iconst 0, 1) := by decide +kernel
theorem d_law_1546 : decode b_law 1546 = .ok (.ireturn, 1) := by decide +kernel
theorem d_law_1547 : decode b_law 1547 = .ok (.aload_n 1, 1) := by decide +kernel
theorem d_law_1548 : decode b_law 1548 = .ok (.invokevirtual 191, 3) := by decide +kernel
theorem d_law_1551 : decode b_law 1551 = .ok (.aload_n 2, 1) := by decide +kernel
theorem d_law_1552 : decode b_law 1552 = .ok (.invokevirtual 194, 3) := by decide +kernel
theorem d_law_1555 : decode b_law 1555 = .ok (.if_icmp .eq 170, 3) := by decide +kernel
theorem d_law_1558 : decode b_law 1558 = .ok (.iconst 0, 1) := by decide +kernel
theorem d_law_1559 : decode b_law 1559 = .ok (.ireturn, 1) := by decide +kernel
theorem d_law_1560 : decode b_law 1560 = .ok (.aload_n 1, 1) := by decide +kernel
theorem d_law_1561 : decode b_law 1561 = .ok (.aload_n 0, 1) := by decide +kernel
theorem d_law_1562 : decode b_law 1562 = .ok (.iload_n 3, 1) := by decide +kernel
theorem d_law_1563 : decode b_law 1563 = .ok (.iconst 1, 1) := by decide +kernel
theorem d_law_1564 : decode b_law 1564 = .ok (.iadd, 1) := by decide +kernel
theorem d_law_1565 : decode b_law 1565 = .ok (.iaload, 1) := by decide +kernel
theorem d_law_1566 : decode b_law 1566 = .ok (.invokevirtual 195, 3) := by decide +kernel
theorem d_law_1569 : decode b_law 1569 = .ok (.aload_n 2, 1) := by decide +kernel
theorem d_law_1570 : decode b_law 1570 = .ok (.aload_n 0, 1) := by decide +kernel
theorem d_law_1571 : decode b_law 1571 = .ok (.iload_n 3, 1) := by decide +kernel
theorem d_law_1572 : decode b_law 1572 = .ok (.iconst 1, 1) := by decide +kernel
theorem d_law_1573 : decode b_law 1573 = .ok (.iadd, 1) := by decide +kernel
theorem d_law_1574 : decode b_law 1574 = .ok (.iaload, 1) := by decide +kernel
theorem d_law_1575 : decode b_law 1575 = .ok (.invokevirtual 198, 3) := by decide +kernel
theorem d_law_1578 : decode b_law 1578 = .ok (.if_icmp .eq 147, 3) := by decide +kernel
theorem d_law_1581 : decode b_law 1581 = .ok (.iconst 0, 1) := by decide +kernel
theorem d_law_1582 : decode b_law 1582 = .ok (.ireturn, 1) := by decide +kernel
theorem d_law_1583 : decode b_law 1583 = .ok (.aload_n 1, 1) := by decide +kernel
theorem d_law_1584 : decode b_law 1584 = .ok (.aload_n 0, 1) := by decide +kernel
theorem d_law_1585 : decode b_law 1585 = .ok (.iload_n 3, 1) := by decide +kernel
theorem d_law_1586 : decode b_law 1586 = .ok (.iconst 1, 1) := by decide +kernel
theorem d_law_1587 : decode b_law 1587 = .ok (.iadd, 1) := by decide +kernel
theorem d_law_1588 : decode b_law 1588 = .ok (.iaload, 1) := by decide +kernel
theorem d_law_1589 : decode b_law 1589 = .ok (.invokevirtual 199, 3) := by decide +kernel
theorem d_law_1592 : decode b_law 1592 = .ok (.aload_n 2, 1) := by decide +kernel
theorem d_law_1593 : decode b_law 1593 = .ok (.aload_n 0, 1) := by decide +kernel
theorem d_law_1594 : decode b_law 1594 = .ok (.iload_n 3, 1) := by decide +kernel
theorem d_law_1595 : decode b_law 1595 = .ok (.iconst 1, 1) := by decide +kernel
theorem d_law_1596 : decode b_law 1596 = .ok (.iadd, 1) := by decide +kernel
theorem d_law_1597 : decode b_law 1597 = .ok (.iaload, 1) := by decide +kernel
theorem d_law_1598 : decode b_law 1598 = .ok (.invokevirtual 202, 3) := by decide +kernel
theorem d_law_1601 : decode b_law 1601 = .ok (.if_icmp .eq 124, 3) := by decide +kernel
theorem d_law_1604 : decode b_law 1604 = .ok (.iconst 0, 1) := by decide +kernel
theorem d_law_1605 : decode b_law 1605 = .ok (.ireturn, 1) := by decide +kernel
theorem d_law_1606 : decode b_law 1606 = .ok (.aload_n 1, 1) := by decide +kernel
theorem d_law_1607 : decode b_law 1607 = .ok (.aload_n 0, 1) := by decide +kernel
theorem d_law_1608 : decode b_law 1608 = .ok (.iload_n 3, 1) := by decide +kernel
theorem d_law_1609 : decode b_law 1609 = .ok (.iconst 1, 1) := by decide +kernel
theorem d_law_1610 : decode b_law 1610 = .ok (.iadd, 1) := by decide +kernel
theorem d_law_1611 : decode b_law 1611 = .ok (.iaload, 1) := by decide +kernel
theorem d_law_1612 : decode b_law 1612 = .ok (.invokevirtual 203, 3) := by decide +kernel
theorem d_law_1615 : decode b_law 1615 = .ok (.aload_n 2, 1) := by decide +kernel
theorem d_law_1616 : decode b_law 1616 = .ok (.aload_n 0, 1) := by decide +kernel
theorem d_law_1617 : decode b_law 1617 = .ok (.iload_n 3, 1) := by decide +kernel
theorem d_law_1618 : decode b_law 1618 = .ok (.iconst 1, 1) := by decide +kernel
theorem d_law_1619 : decode b_law 1619 = .ok (.iadd, 1) := by decide +kernel
theorem d_law_1620 : decode b_law 1620 = .ok (.iaload, 1) := by decide +kernel
theorem d_law_1621 : decode b_law 1621 = .ok (.invokevirtual 206, 3) := by decide +kernel
theorem d_law_1624 : decode b_law 1624 = .ok (.if_icmp .eq 101, 3) := by decide +kernel
theorem d_law_1627 : decode b_law 1627 = .ok (.iconst 0, 1) := by decide +kernel
theorem d_law_1628 : decode b_law 1628 = .ok (.ireturn, 1) := by decide +kernel
theorem d_law_1629 : decode b_law 1629 = .ok (.aload_n 1, 1) := by decide +kernel
theorem d_law_1630 : decode b_law 1630 = .ok (.aload_n 0, 1) := by decide +kernel
theorem d_law_1631 : decode b_law 1631 = .ok (.iload_n 3, 1) := by decide +kernel
theorem d_law_1632 : decode b_law 1632 = .ok (.iconst 1, 1) := by decide +kernel
theorem d_law_1633 : decode b_law 1633 = .ok (.iadd, 1) := by decide +kernel
theorem d_law_1634 : decode b_law 1634 = .ok (.iaload, 1) := by decide +kernel
theorem d_law_1635 : decode b_law 1635 = .ok (.invokevirtual 207, 3) := by decide +kernel
theorem d_law_1638 : decode b_law 1638 = .ok (.aload_n 2, 1) := by decide +kernel
theorem d_law_1639 : decode b_law 1639 = .ok (.aload_n 0, 1) := by decide +kernel
theorem d_law_1640 : decode b_law 1640 = .ok (.iload_n 3, 1) := by decide +kernel
theorem d_law_1641 : decode b_law 1641 = .ok (.iconst 1, 1) := by decide +kernel
theorem d_law_1642 : decode b_law 1642 = .ok (.iadd, 1) := by decide +kernel
theorem d_law_1643 : decode b_law 1643 = .ok (.iaload, 1) := by decide +kernel
theorem d_law_1644 : decode b_law 1644 = .ok (.invokevirtual 210, 3) := by decide +kernel
theorem d_law_1647 : decode b_law 1647 = .ok (.if_icmp .eq 78, 3) := by decide +kernel
theorem d_law_1650 : decode b_law 1650 = .ok (.iconst 0, 1) := by decide +kernel
theorem d_law_1651 : decode b_law 1651 = .ok (.ireturn, 1) := by decide +kernel
theorem d_law_1652 : decode b_law 1652 = .ok (.aload_n 1, 1) := by decide +kernel
theorem d_law_1653 : decode b_law 1653 = .ok (.aload_n 0, 1) := by decide +kernel
theorem d_law_1654 : decode b_law 1654 = .ok (.iload_n 3, 1) := by decide +kernel
theorem d_law_1655 : decode b_law 1655 = .ok (.iconst 1, 1) := by decide +kernel
theorem d_law_1656 : decode b_law 1656 = .ok (.iadd, 1) := by decide +kernel
theorem d_law_1657 : decode b_law 1657 = .ok (.iaload, 1) := by decide +kernel
theorem d_law_1658 : decode b_law 1658 = .ok (.invokevirtual 211, 3) := by decide +kernel
theorem d_law_1661 : decode b_law 1661 = .ok (.aload_n 2, 1) := by decide +kernel
theorem d_law_1662 : decode b_law 1662 = .ok (.aload_n 0, 1) := by decide +kernel
theorem d_law_1663 : decode b_law 1663 = .ok (.iload_n 3, 1) := by decide +kernel
theorem d_law_1664 : decode b_law 1664 = .ok (.iconst 1, 1) := by decide +kernel
theorem d_law_1665 : decode b_law 1665 = .ok (.iadd, 1) := by decide +kernel
theorem d_law_1666 : decode b_law 1666 = .ok (.iaload, 1) := by decide +kernel
theorem d_law_1667 : decode b_law 1667 = .ok (.invokevirtual 214, 3) := by decide +kernel
theorem d_law_1670 : decode b_law 1670 = .ok (.if_icmp .eq 55, 3) := by decide +kernel
theorem d_law_1673 : decode b_law 1673 = .ok (.iconst 0, 1) := by decide +kernel
theorem d_law_1674 : decode b_law 1674 = .ok (.ireturn, 1) := by decide +kernel
theorem d_law_1675 : decode b_law 1675 = .ok (.aload_n 1, 1) := by decide +kernel
theorem d_law_1676 : decode b_law 1676 = .ok (.aload_n 0, 1) := by decide +kernel
theorem d_law_1677 : decode b_law 1677 = .ok (.iload_n 3, 1) := by decide +kernel
theorem d_law_1678 : decode b_law 1678 = .ok (.iconst 1, 1) := by decide +kernel
theorem d_law_1679 : decode b_law 1679 = .ok (.iadd, 1) := by decide +kernel
theorem d_law_1680 : decode b_law 1680 = .ok (.iaload, 1) := by decide +kernel
theorem d_law_1681 : decode b_law 1681 = .ok (.invokevirtual 215, 3) := by decide +kernel
theorem d_law_1684 : decode b_law 1684 = .ok (.aload_n 2, 1) := by decide +kernel
theorem d_law_1685 : decode b_law 1685 = .ok (.aload_n 0, 1) := by decide +kernel
theorem d_law_1686 : decode b_law 1686 = .ok (.iload_n 3, 1) := by decide +kernel
theorem d_law_1687 : decode b_law 1687 = .ok (.iconst 1, 1) := by decide +kernel
theorem d_law_1688 : decode b_law 1688 = .ok (.iadd, 1) := by decide +kernel
theorem d_law_1689 : decode b_law 1689 = .ok (.iaload, 1) := by decide +kernel
theorem d_law_1690 : decode b_law 1690 = .ok (.invokevirtual 218, 3) := by decide +kernel
theorem d_law_1693 : decode b_law 1693 = .ok (.if_icmp .eq 32, 3) := by decide +kernel
theorem d_law_1696 : decode b_law 1696 = .ok (.iconst 0, 1) := by decide +kernel
theorem d_law_1697 : decode b_law 1697 = .ok (.ireturn, 1) := by decide +kernel
theorem d_law_1698 : decode b_law 1698 = .ok (.aload_n 1, 1) := by decide +kernel
theorem d_law_1699 : decode b_law 1699 = .ok (.invokevirtual 219, 3) := by decide +kernel
theorem d_law_1702 : decode b_law 1702 = .ok (.aload_n 2, 1) := by decide +kernel
theorem d_law_1703 : decode b_law 1703 = .ok (.invokevirtual 222, 3) := by decide +kernel
theorem d_law_1706 : decode b_law 1706 = .ok (.if_icmp .eq 19, 3) := by decide +kernel
theorem d_law_1709 : decode b_law 1709 = .ok (.iconst 0, 1) := by decide +kernel
theorem d_law_1710 : decode b_law 1710 = .ok (.ireturn, 1) := by decide +kernel
theorem d_law_1711 : decode b_law 1711 = .ok (.aload_n 1, 1) := by decide +kernel
theorem d_law_1712 : decode b_law 1712 = .ok (.invokevirtual 223, 3) := by decide +kernel
theorem d_law_1715 : decode b_law 1715 = .ok (.aload_n 2, 1) := by decide +kernel
theorem d_law_1716 : decode b_law 1716 = .ok (.invokevirtual 227, 3) := by decide +kernel
theorem d_law_1719 : decode b_law 1719 = .ok (.lcmp, 1) := by decide +kernel
theorem d_law_1720 : decode b_law 1720 = .ok (.ifCond .eq 5, 3) := by decide +kernel
theorem d_law_1723 : decode b_law 1723 = .ok (.iconst 0, 1) := by decide +kernel
theorem d_law_1724 : decode b_law 1724 = .ok (.ireturn, 1) := by decide +kernel
theorem d_law_1725 : decode b_law 1725 = .ok (.iinc 3 5, 3) := by decide +kernel
theorem d_law_1728 : decode b_law 1728 = .ok (.goto (-1710), 3) := by decide +kernel
theorem d_law_1731 : decode b_law 1731 = .ok (.iconst 1, 1) := by decide +kernel
theorem d_law_1732 : decode b_law 1732 = .ok (.ireturn, 1) := by decide +kernel
