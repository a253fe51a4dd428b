theorem d_L_law_364 : decode k_L_law 364 = .ok (.invokevirtual 71, 3) := by decide +kernel
theorem d_L_law_367 : decode k_L_law 367 = .ok (.if_icmp .eq 64, 3) := by decide +kernel
theorem d_L_law_370 : decode k_L_law 370 = .ok (.iconst 0, 1) := by decide +kernel
theorem d_L_law_371 : decode k_L_law 371 = .ok (.ireturn, 1) := by decide +kernel
theorem d_L_law_372 : decode k_L_law 372 = .ok (.aload_n 1, 1) := by decide +kernel
theorem d_L_law_373 : decode k_L_law 373 = .ok (.aload_n 0, 1) := by decide +kernel
theorem d_L_law_374 : decode k_L_law 374 = .ok (.iload_n 3, 1) := by decide +kernel
theorem d_L_law_375 : decode k_L_law 375 = .ok (.iconst 1, 1) := by decide +kernel
theorem d_L_law_376 : decode k_L_law 376 = .ok (.iadd, 1) := by decide +kernel
theorem d_L_law_377 : decode k_L_law 377 = .ok (.iaload, 1) := by decide +kernel
theorem d_L_law_378 : decode k_L_law 378 = .ok (.invokevirtual 72, 3) := by decide +kernel
theorem d_L_law_381 : decode k_L_law 381 = .ok (.aload_n 2, 1) := by decide +kernel
theorem d_L_law_382 : decode k_L_law 382 = .ok (.aload_n 0, 1) := by decide +kernel
theorem d_L_law_383 : decode k_L_law 383 = .ok (.iload_n 3, 1) := by decide +kernel
theorem d_L_law_384 : decode k_L_law 384 = .ok (.iconst 1, 1) := by decide +kernel
theorem d_L_law_385 : decode k_L_law 385 = .ok (.iadd, 1) := by decide +kernel
theorem d_L_law_386 : decode k_L_law 386 = .ok (.iaload, 1) := by decide +kernel
theorem d_L_law_387 : decode k_L_law 387 = .ok (.invokevirtual 75, 3) := by decide +kernel
theorem d_L_law_390 : decode k_L_law 390 = .ok (.if_icmp .eq 41, 3) := by decide +kernel
theorem d_L_law_393 : decode k_L_law 393 = .ok (.iconst 0, 1) := by decide +kernel
theorem d_L_law_394 : decode k_L_law 394 = .ok (.ireturn, 1) := by decide +kernel
theorem d_L_law_395 : decode k_L_law 395 = .ok (.aload_n 1, 1) := by decide +kernel
theorem d_L_law_396 : decode k_L_law 396 = .ok (.aload_n 0, 1) := by decide +kernel
theorem d_L_law_397 : decode k_L_law 397 = .ok (.iload_n 3, 1) := by decide +kernel
theorem d_L_law_398 : decode k_L_law 398 = .ok (.iconst 1, 1) := by decide +kernel
theorem d_L_law_399 : decode k_L_law 399 = .ok (.iadd, 1) := by decide +kernel
theorem d_L_law_400 : decode k_L_law 400 = .ok (.iaload, 1) := by decide +kernel
theorem d_L_law_401 : decode k_L_law 401 = .ok (.invokevirtual 76, 3) := by decide +kernel
theorem d_L_law_404 : decode k_L_law 404 = .ok (.aload_n 2, 1) := by decide +kernel
theorem d_L_law_405 : decode k_L_law 405 = .ok (.aload_n 0, 1) := by decide +kernel
theorem d_L_law_406 : decode k_L_law 406 = .ok (.iload_n 3, 1) := by decide +kernel
theorem d_L_law_407 : decode k_L_law 407 = .ok (.iconst 1, 1) := by decide +kernel
theorem d_L_law_408 : decode k_L_law 408 = .ok (.iadd, 1) := by decide +kernel
theorem d_L_law_409 : decode k_L_law 409 = .ok (.iaload, 1) := by decide +kernel
theorem d_L_law_410 : decode k_L_law 410 = .ok (.invokevirtual 79, 3) := by decide +kernel
theorem d_L_law_413 : decode k_L_law 413 = .ok (.if_icmp .eq 18, 3) := by decide +kernel
theorem d_L_law_416 : decode k_L_law 416 = .ok (.iconst 0, 1) := by decide +kernel
theorem d_L_law_417 : decode k_L_law 417 = .ok (.ireturn, 1) := by decide +kernel
theorem d_L_law_418 : decode k_L_law 418 = .ok (.aload_n 1, 1) := by decide +kernel
theorem d_L_law_419 : decode k_L_law 419 = .ok (.invokevirtual 80, 3) := by decide +kernel
theorem d_L_law_422 : decode k_L_law 422 = .ok (.aload_n 2, 1) := by decide +kernel
theorem d_L_law_423 : decode k_L_law 423 = .ok (.invokevirtual 83, 3) := by decide +kernel
theorem d_L_law_426 : decode k_L_law 426 = .ok (.if_icmp .eq 5, 3) := by decide +kernel
theorem d_L_law_429 : decode k_L_law 429 = .ok (.iconst 0, 1) := by decide +kernel
theorem d_L_law_430 : decode k_L_law 430 = .ok (.ireturn, 1) := by decide +kernel
theorem d_L_law_431 : decode k_L_law 431 = .ok (.iinc 3 4, 3) := by decide +kernel
theorem d_L_law_434 : decode k_L_law 434 = .ok (.goto (-416), 3) := by decide +kernel
theorem d_L_law_437 : decode k_L_law 437 = .ok (.iconst 1, 1) := by decide +kernel
theorem d_L_law_438 : decode k_L_law 438 = .ok (.ireturn, 1) := by decide +kernel
