theorem d_La_law_361 : decode b_La_law 361 = .ok (.iload 4, 2) := by decide +kernel
theorem d_La_law_363 : decode b_La_law 363 = .ok (.iconst 1, 1) := by decide +kernel
theorem d_La_law_364 : decode b_La_law 364 = .ok (.iadd, 1) := by decide +kernel
theorem d_La_law_365 : decode b_La_law 365 = .ok (.iaload, 1) := by decide +kernel
theorem d_La_law_366 : decode b_La_law 366 = .ok (.aload_n 0, 1) := by decide +kernel
theorem d_La_law_367 : decode b_La_law 367 = .ok (.iload 4, 2) := by decide +kernel
theorem d_La_law_369 : decode b_La_law 369 = .ok (.iconst 2, 1) := by decide +kernel
theorem d_La_law_370 : decode b_La_law 370 = .ok (.iadd, 1) := by decide +kernel
theorem d_La_law_371 : decode b_La_law 371 = .ok (.iaload, 1) := by decide +kernel
theorem d_La_law_372 : decode b_La_law 372 = .ok (.ifCond .eq 7, 3) := by decide +kernel
theorem d_La_law_375 : decode b_La_law 375 = .ok (.iconst 1, 1) := by decide +kernel
theorem d_La_law_376 : decode b_La_law 376 = .ok (.goto 4, 3) := by decide +kernel
theorem d_La_law_379 : decode b_La_law 379 = .ok (.iconst 0, 1) := by decide +kernel
theorem d_La_law_380 : decode b_La_law 380 = .ok (.invokevirtual 88, 3) := by decide +kernel
theorem d_La_law_383 : decode b_La_law 383 = .ok (.istore 6, 2) := by decide +kernel
theorem d_La_law_385 : decode b_La_law 385 = .ok (.aload_n 2, 1) := by decide +kernel
theorem d_La_law_386 : decode b_La_law 386 = .ok (.invokevirtual 74, 3) := by decide +kernel
theorem d_La_law_389 : decode b_La_law 389 = .ok (.iload 5, 2) := by decide +kernel
theorem d_La_law_391 : decode b_La_law 391 = .ok (.if_icmp .eq 5, 3) := by decide +kernel
theorem d_La_law_394 : decode b_La_law 394 = .ok (.iconst 0, 1) := by decide +kernel
theorem d_La_law_395 : decode b_La_law 395 = .ok (.ireturn, 1) := by decide +kernel
theorem d_La_law_396 : decode b_La_law 396 = .ok (.iload 5, 2) := by decide +kernel
theorem d_La_law_398 : decode b_La_law 398 = .ok (.ifCond .ne 15, 3) := by decide +kernel
theorem d_La_law_401 : decode b_La_law 401 = .ok (.aload_n 3, 1) := by decide +kernel
theorem d_La_law_402 : decode b_La_law 402 = .ok (.iconst 0, 1) := by decide +kernel
theorem d_La_law_403 : decode b_La_law 403 = .ok (.laload, 1) := by decide +kernel
theorem d_La_law_404 : decode b_La_law 404 = .ok (.iload 6, 2) := by decide +kernel
theorem d_La_law_406 : decode b_La_law 406 = .ok (.i2l, 1) := by decide +kernel
theorem d_La_law_407 : decode b_La_law 407 = .ok (.lcmp, 1) := by decide +kernel
theorem d_La_law_408 : decode b_La_law 408 = .ok (.ifCond .eq 5, 3) := by decide +kernel
theorem d_La_law_411 : decode b_La_law 411 = .ok (.iconst 0, 1) := by decide +kernel
theorem d_La_law_412 : decode b_La_law 412 = .ok (.ireturn, 1) := by decide +kernel
theorem d_La_law_413 : decode b_La_law 413 = .ok (.goto 693, 3) := by decide +kernel
theorem d_La_law_416 : decode b_La_law 416 = .ok (.aload_n 1, 1) := by decide +kernel
theorem d_La_law_417 : decode b_La_law 417 = .ok (.aload_n 0, 1) := by decide +kernel
theorem d_La_law_418 : decode b_La_law 418 = .ok (.iload 4, 2) := by decide +kernel
theorem d_La_law_420 : decode b_La_law 420 = .ok (.iconst 1, 1) := by decide +kernel
theorem d_La_law_421 : decode b_La_law 421 = .ok (.iadd, 1) := by decide +kernel
theorem d_La_law_422 : decode b_La_law 422 = .ok (.iaload, 1) := by decide +kernel
theorem d_La_law_423 : decode b_La_law 423 = .ok (.aload_n 3, 1) := by decide +kernel
theorem d_La_law_424 : decode b_La_law 424 = .ok (.invokestatic 89, 3) := by decide +kernel
theorem d_La_law_427 : decode b_La_law 427 = .ok (.istore 5, 2) := by decide +kernel
theorem d_La_law_429 : decode b_La_law 429 = .ok (.aload_n 2, 1) := by decide +kernel
theorem d_La_law_430 : decode b_La_law 430 = .ok (.aload_n 0, 1) := by decide +kernel
theorem d_La_law_431 : decode b_La_law 431 = .ok (.iload 4, 2) := by decide +kernel
theorem d_La_law_433 : decode b_La_law 433 = .ok (.iconst 1, 1) := by decide +kernel
theorem d_La_law_434 : decode b_La_law 434 = .ok (.iadd, 1) := by decide +kernel
theorem d_La_law_435 : decode b_La_law 435 = .ok (.iaload, 1) := by decide +kernel
theorem d_La_law_436 : decode b_La_law 436 = .ok (.invokevirtual 91, 3) := by decide +kernel
theorem d_La_law_439 : decode b_La_law 439 = .ok (.lstore 6, 2) := by decide +kernel
theorem d_La_law_441 : decode b_La_law 441 = .ok (.aload_n 2, 1) := by decide +kernel
theorem d_La_law_442 : decode b_La_law 442 = .ok (.invokevirtual 74, 3) := by decide +kernel
theorem d_La_law_445 : decode b_La_law 445 = .ok (.iload 5, 2) := by decide +kernel
theorem d_La_law_447 : decode b_La_law 447 = .ok (.if_icmp .eq 5, 3) := by decide +kernel
theorem d_La_law_450 : decode b_La_law 450 = .ok (.iconst 0, 1) := by decide +kernel
theorem d_La_law_451 : decode b_La_law 451 = .ok (.ireturn, 1) := by decide +kernel
theorem d_La_law_452 : decode b_La_law 452 = .ok (.iload 5, 2) := by decide +kernel
theorem d_La_law_454 : decode b_La_law 454 = .ok (.ifCond .ne 14, 3) := by decide +kernel
theorem d_La_law_457 : decode b_La_law 457 = .ok (.aload_n 3, 1) := by decide +kernel
theorem d_La_law_458 : decode b_La_law 458 = .ok (.iconst 0, 1) := by decide +kernel
