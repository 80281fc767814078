theorem d_Lw_law_350 : decode b_Lw_law 350 = .ok (.aload_n 2, 1) := by decide +kernel
theorem d_Lw_law_351 : decode b_Lw_law 351 = .ok (.aload_n 0, 1) := by decide +kernel
theorem d_Lw_law_352 : decode b_Lw_law 352 = .ok (.iload_n 3, 1) := by decide +kernel
theorem d_Lw_law_353 : decode b_Lw_law 353 = .ok (.iconst 1, 1) := by decide +kernel
theorem d_Lw_law_354 : decode b_Lw_law 354 = .ok (.iadd, 1) := by decide +kernel
theorem d_Lw_law_355 : decode b_Lw_law 355 = .ok (.iaload, 1) := by decide +kernel
theorem d_Lw_law_356 : decode b_Lw_law 356 = .ok (.aload_n 0, 1) := by decide +kernel
theorem d_Lw_law_357 : decode b_Lw_law 357 = .ok (.iload_n 3, 1) := by decide +kernel
theorem d_Lw_law_358 : decode b_Lw_law 358 = .ok (.iconst 2, 1) := by decide +kernel
theorem d_Lw_law_359 : decode b_Lw_law 359 = .ok (.iadd, 1) := by decide +kernel
theorem d_Lw_law_360 : decode b_Lw_law 360 = .ok (.iaload, 1) := by decide +kernel
theorem d_Lw_law_361 : decode b_Lw_law 361 = .ok (.aload_n 0, 1) := by decide +kernel
theorem d_Lw_law_362 : decode b_Lw_law 362 = .ok (.iload_n 3, 1) := by decide +kernel
theorem d_Lw_law_363 : decode b_Lw_law 363 = .ok (.iconst 3, 1) := by decide +kernel
theorem d_Lw_law_364 : decode b_Lw_law 364 = .ok (.iadd, 1) := by decide +kernel
theorem d_Lw_law_365 : decode b_Lw_law 365 = .ok (.iaload, 1) := by decide +kernel
theorem d_Lw_law_366 : decode b_Lw_law 366 = .ok (.invokevirtual 51, 3) := by decide +kernel
theorem d_Lw_law_369 : decode b_Lw_law 369 = .ok (.if_icmp .eq 539, 3) := by decide +kernel
theorem d_Lw_law_372 : decode b_Lw_law 372 = .ok (.iconst 0, 1) := by decide +kernel
theorem d_Lw_law_373 : decode b_Lw_law 373 = .ok (.ireturn, 1) := by decide +kernel
theorem d_Lw_law_374 : decode b_Lw_law 374 = .ok (.aload_n 1, 1) := by decide +kernel
theorem d_Lw_law_375 : decode b_Lw_law 375 = .ok (.aload_n 0, 1) := by decide +kernel
theorem d_Lw_law_376 : decode b_Lw_law 376 = .ok (.iload_n 3, 1) := by decide +kernel
theorem d_Lw_law_377 : decode b_Lw_law 377 = .ok (.iconst 1, 1) := by decide +kernel
theorem d_Lw_law_378 : decode b_Lw_law 378 = .ok (.iadd, 1) := by decide +kernel
theorem d_Lw_law_379 : decode b_Lw_law 379 = .ok (.iaload, 1) := by decide +kernel
theorem d_Lw_law_380 : decode b_Lw_law 380 = .ok (.aload_n 0, 1) := by decide +kernel
theorem d_Lw_law_381 : decode b_Lw_law 381 = .ok (.iload_n 3, 1) := by decide +kernel
theorem d_Lw_law_382 : decode b_Lw_law 382 = .ok (.iconst 2, 1) := by decide +kernel
theorem d_Lw_law_383 : decode b_Lw_law 383 = .ok (.iadd, 1) := by decide +kernel
theorem d_Lw_law_384 : decode b_Lw_law 384 = .ok (.iaload, 1) := by decide +kernel
theorem d_Lw_law_385 : decode b_Lw_law 385 = .ok (.aload_n 0, 1) := by decide +kernel
theorem d_Lw_law_386 : decode b_Lw_law 386 = .ok (.iload_n 3, 1) := by decide +kernel
theorem d_Lw_law_387 : decode b_Lw_law 387 = .ok (.iconst 3, 1) := by decide +kernel
theorem d_Lw_law_388 : decode b_Lw_law 388 = .ok (.iadd, 1) := by decide +kernel
theorem d_Lw_law_389 : decode b_Lw_law 389 = .ok (.iaload, 1) := by decide +kernel
theorem d_Lw_law_390 : decode b_Lw_law 390 = .ok (.aload_n 0, 1) := by decide +kernel
theorem d_Lw_law_391 : decode b_Lw_law 391 = .ok (.iload_n 3, 1) := by decide +kernel
theorem d_Lw_law_392 : decode b_Lw_law 392 = .ok (.iconst 4, 1) := by decide +kernel
theorem d_Lw_law_393 : decode b_Lw_law 393 = .ok (.iadd, 1) := by decide +kernel
theorem d_Lw_law_394 : decode b_Lw_law 394 = .ok (.iaload, 1) := by decide +kernel
theorem d_Lw_law_395 : decode b_Lw_law 395 = .ok (.invokevirtual 52, 3) := by decide +kernel
theorem d_Lw_law_398 : decode b_Lw_law 398 = .ok (.aload_n 2, 1) := by decide +kernel
theorem d_Lw_law_399 : decode b_Lw_law 399 = .ok (.aload_n 0, 1) := by decide +kernel
theorem d_Lw_law_400 : decode b_Lw_law 400 = .ok (.iload_n 3, 1) := by decide +kernel
theorem d_Lw_law_401 : decode b_Lw_law 401 = .ok (.iconst 1, 1) := by decide +kernel
theorem d_Lw_law_402 : decode b_Lw_law 402 = .ok (.iadd, 1) := by decide +kernel
theorem d_Lw_law_403 : decode b_Lw_law 403 = .ok (.iaload, 1) := by decide +kernel
theorem d_Lw_law_404 : decode b_Lw_law 404 = .ok (.aload_n 0, 1) := by decide +kernel
theorem d_Lw_law_405 : decode b_Lw_law 405 = .ok (.iload_n 3, 1) := by decide +kernel
theorem d_Lw_law_406 : decode b_Lw_law 406 = .ok (.iconst 2, 1) := by decide +kernel
theorem d_Lw_law_407 : decode b_Lw_law 407 = .ok (.iadd, 1) := by decide +kernel
theorem d_Lw_law_408 : decode b_Lw_law 408 = .ok (.iaload, 1) := by decide +kernel
theorem d_Lw_law_409 : decode b_Lw_law 409 = .ok (.aload_n 0, 1) := by decide +kernel
theorem d_Lw_law_410 : decode b_Lw_law 410 = .ok (.iload_n 3, 1) := by decide +kernel
theorem d_Lw_law_411 : decode b_Lw_law 411 = .ok (.iconst 3, 1) := by decide +kernel
theorem d_Lw_law_412 : decode b_Lw_law 412 = .ok (.iadd, 1) := by decide +kernel
theorem d_Lw_law_413 : decode b_Lw_law 413 = .ok (.iaload, 1) := by decide +kernel
theorem d_Lw_law_414 : decode b_Lw_law 414 = .ok (.aload_n 0, 1) := by decide +kernel
theorem d_Lw_law_415 : decode b_Lw_law 415 = .ok (.iload_n 3, 1) := by decide +kernel
theorem d_Lw_law_416 : decode b_Lw_law 416 = .ok (.iconst 4, 1) := by decide +kernel
theorem d_Lw_law_417 : decode b_Lw_law 417 = .ok (.iadd, 1) := by decide +kernel
theorem d_Lw_law_418 : decode b_Lw_law 418 = .ok (.iaload, 1) := by decide +kernel
theorem d_Lw_law_419 : decode b_Lw_law 419 = .ok (.invokevirtual 55, 3) := by decide +kernel
theorem d_Lw_law_422 : decode b_Lw_law 422 = .ok (.if_icmp .eq 486, 3) := by decide +kernel
theorem d_Lw_law_425 : decode b_Lw_law 425 = .ok (.iconst 0, 1) := by decide +kernel
theorem d_Lw_law_426 : decode b_Lw_law 426 = .ok (.ireturn, 1) := by decide +kernel
theorem d_Lw_law_427 : decode b_Lw_law 427 = .ok (.aload_n 1, 1) := by decide +kernel
theorem d_Lw_law_428 : decode b_Lw_law 428 = .ok (.aload_n 0, 1) := by decide +kernel
theorem d_Lw_law_429 : decode b_Lw_law 429 = .ok (.iload_n 3, 1) := by decide +kernel
theorem d_Lw_law_430 : decode b_Lw_law 430 = .ok (.iconst 1, 1) := by decide +kernel
theorem d_Lw_law_431 : decode b_Lw_law 431 = .ok (.iadd, 1) := by decide +kernel
theorem d_Lw_law_432 : decode b_Lw_law 432 = .ok (.iaload, 1) := by decide +kernel
theorem d_Lw_law_433 : decode b_Lw_law 433 = .ok (.aload_n 0, 1) := by decide +kernel
theorem d_Lw_law_434 : decode b_Lw_law 434 = .ok (.iload_n 3, 1) := by decide +kernel
theorem d_Lw_law_435 : decode b_Lw_law 435 = .ok (.iconst 2, 1) := by decide +kernel
theorem d_Lw_law_436 : decode b_Lw_law 436 = .ok (.iadd, 1) := by decide +kernel
theorem d_Lw_law_437 : decode b_Lw_law 437 = .ok (.iaload, 1) := by decide +kernel
theorem d_Lw_law_438 : decode b_Lw_law 438 = .ok (.invokevirtual 56, 3) := by decide +kernel
theorem d_Lw_law_441 : decode b_Lw_law 441 = .ok (.aload_n 2, 1) := by decide +kernel
theorem d_Lw_law_442 : decode b_Lw_law 442 = .ok (.aload_n 0, 1) := by decide +kernel
theorem d_Lw_law_443 : decode b_Lw_law 443 = .ok (.iload_n 3, 1) := by decide +kernel
theorem d_Lw_law_444 : decode b_Lw_law 444 = .ok (.iconst 1, 1) := by decide +kernel
theorem d_Lw_law_445 : decode b_Lw_law 445 = .ok (.iadd, 1) := by decide +kernel
theorem d_Lw_law_446 : decode b_Lw_law 446 = .ok (.iaload, 1) := by decide +kernel
theorem d_Lw_law_447 : decode b_Lw_law 447 = .ok (.aload_n 0, 1) := by decide +kernel
theorem d_Lw_law_448 : decode b_Lw_law 448 = .ok (.iload_n 3, 1) := by decide +kernel
theorem d_Lw_law_449 : decode b_Lw_law 449 = .ok (.iconst 2, 1) := by decide +kernel
theorem d_Lw_law_450 : decode b_Lw_law 450 = .ok (.iadd, 1) := by decide +kernel
theorem d_Lw_law_451 : decode b_Lw_law 451 = .ok (.iaload, 1) := by decide +kernel
theorem d_Lw_law_452 : decode b_Lw_law 452 = .ok (.invokevirtual 59, 3) := by decide +kernel
theorem d_Lw_law_455 : decode b_Lw_law 455 = .ok (.if_icmp .eq 453, 3) := by decide +kernel
theorem d_Lw_law_458 : decode b_Lw_law 458 = .ok (.iconst 0, 1) := by decide +kernel
theorem d_Lw_law_459 : decode b_Lw_law 459 = .ok (.ireturn, 1) := by decide +kernel
theorem d_Lw_law_460 : decode b_Lw_law 460 = .ok (.aload_n 1, 1) := by decide +kernel
theorem d_Lw_law_461 : decode b_Lw_law 461 = .ok (.aload_n 0, 1) := by decide +kernel
theorem d_Lw_law_462 : decode b_Lw_law 462 = .ok (.iload_n 3, 1) := by decide +kernel
theorem d_Lw_law_463 : decode b_Lw_law 463 = .ok (.iconst 1, 1) := by decide +kernel
theorem d_Lw_law_464 : decode b_Lw_law 464 = .ok (.iadd, 1) := by decide +kernel
theorem d_Lw_law_465 : decode b_Lw_law 465 = .ok (.iaload, 1) := by decide +kernel
