theorem d_L_law_288 : decode k_L_law 288 = .ok (.iload_n 3, 1) := by decide +kernel
theorem d_L_law_289 : decode k_L_law 289 = .ok (.iconst 1, 1) := by decide +kernel
theorem d_L_law_290 : decode k_L_law 290 = .ok (.iadd, 1) := by decide +kernel
theorem d_L_law_291 : decode k_L_law 291 = .ok (.iaload, 1) := by decide +kernel
theorem d_L_law_292 : decode k_L_law 292 = .ok (.invokevirtual 50, 3) := by decide +kernel
theorem d_L_law_295 : decode k_L_law 295 = .ok (.aload_n 2, 1) := by decide +kernel
theorem d_L_law_296 : decode k_L_law 296 = .ok (.aload_n 0, 1) := by decide +kernel
theorem d_L_law_297 : decode k_L_law 297 = .ok (.iload_n 3, 1) := by decide +kernel
theorem d_L_law_298 : decode k_L_law 298 = .ok (.iconst 1, 1) := by decide +kernel
theorem d_L_law_299 : decode k_L_law 299 = .ok (.iadd, 1) := by decide +kernel
theorem d_L_law_300 : decode k_L_law 300 = .ok (.iaload, 1) := by decide +kernel
theorem d_L_law_301 : decode k_L_law 301 = .ok (.invokevirtual 53, 3) := by decide +kernel
theorem d_L_law_304 : decode k_L_law 304 = .ok (.if_icmp .eq 127, 3) := by decide +kernel
theorem d_L_law_307 : decode k_L_law 307 = .ok (.iconst 0, 1) := by decide +kernel
theorem d_L_law_308 : decode k_L_law 308 = .ok (.ireturn, 1) := by decide +kernel
theorem d_L_law_309 : decode k_L_law 309 = .ok (.aload_n 1, 1) := by decide +kernel
theorem d_L_law_310 : decode k_L_law 310 = .ok (.invokevirtual 54, 3) := by decide +kernel
theorem d_L_law_313 : decode k_L_law 313 = .ok (.aload_n 2, 1) := by decide +kernel
theorem d_L_law_314 : decode k_L_law 314 = .ok (.invokevirtual 58, 3) := by decide +kernel
theorem d_L_law_317 : decode k_L_law 317 = .ok (.if_icmp .eq 114, 3) := by decide +kernel
theorem d_L_law_320 : decode k_L_law 320 = .ok (.iconst 0, 1) := by decide +kernel
theorem d_L_law_321 : decode k_L_law 321 = .ok (.ireturn, 1) := by decide +kernel
theorem d_L_law_322 : decode k_L_law 322 = .ok (.aload_n 1, 1) := by decide +kernel
theorem d_L_law_323 : decode k_L_law 323 = .ok (.invokevirtual 59, 3) := by decide +kernel
theorem d_L_law_326 : decode k_L_law 326 = .ok (.aload_n 2, 1) := by decide +kernel
theorem d_L_law_327 : decode k_L_law 327 = .ok (.invokevirtual 62, 3) := by decide +kernel
theorem d_L_law_330 : decode k_L_law 330 = .ok (.if_icmp .eq 101, 3) := by decide +kernel
theorem d_L_law_333 : decode k_L_law 333 = .ok (.iconst 0, 1) := by decide +kernel
theorem d_L_law_334 : decode k_L_law 334 = .ok (.ireturn, 1) := by decide +kernel
theorem d_L_law_335 : decode k_L_law 335 = .ok (.aload_n 1, 1) := by decide +kernel
theorem d_L_law_336 : decode k_L_law 336 = .ok (.invokevirtual 63, 3) := by decide +kernel
theorem d_L_law_339 : decode k_L_law 339 = .ok (.aload_n 2, 1) := by decide +kernel
theorem d_L_law_340 : decode k_L_law 340 = .ok (.invokevirtual 67, 3) := by decide +kernel
theorem d_L_law_343 : decode k_L_law 343 = .ok (.lcmp, 1) := by decide +kernel
theorem d_L_law_344 : decode k_L_law 344 = .ok (.ifCond .eq 87, 3) := by decide +kernel
theorem d_L_law_347 : decode k_L_law 347 = .ok (.iconst 0, 1) := by decide +kernel
theorem d_L_law_348 : decode k_L_law 348 = .ok (.ireturn, 1) := by decide +kernel
theorem d_L_law_349 : decode k_L_law 349 = .ok (.aload_n 1, 1) := by decide +kernel
theorem d_L_law_350 : decode k_L_law 350 = .ok (.aload_n 0, 1) := by decide +kernel
theorem d_L_law_351 : decode k_L_law 351 = .ok (.iload_n 3, 1) := by decide +kernel
theorem d_L_law_352 : decode k_L_law 352 = .ok (.iconst 1, 1) := by decide +kernel
theorem d_L_law_353 : decode k_L_law 353 = .ok (.iadd, 1) := by decide +kernel
theorem d_L_law_354 : decode k_L_law 354 = .ok (.iaload, 1) := by decide +kernel
theorem d_L_law_355 : decode k_L_law 355 = .ok (.invokevirtual 68, 3) := by decide +kernel
theorem d_L_law_358 : decode k_L_law 358 = .ok (.aload_n 2, 1) := by decide +kernel
theorem d_L_law_359 : decode k_L_law 359 = .ok (.aload_n 0, 1) := by decide +kernel
theorem d_L_law_360 : decode k_L_law 360 = .ok (.iload_n 3, 1) := by decide +kernel
theorem d_L_law_361 : decode k_L_law 361 = .ok (.iconst 1, 1) := by decide +kernel
theorem d_L_law_362 : decode k_L_law 362 = .ok (.iadd, 1) := by decide +kernel
theorem d_L_law_363 : decode k_L_law 363 = .ok (.iaload, 1) := by decide +kernel
