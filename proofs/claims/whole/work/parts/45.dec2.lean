theorem d_La_law_267 : decode b_La_law 267 = .ok (.lcmp, 1) := by decide +kernel
theorem d_La_law_268 : decode b_La_law 268 = .ok (.ifCond .eq 5, 3) := by decide +kernel
theorem d_La_law_271 : decode b_La_law 271 = .ok (.iconst 0, 1) := by decide +kernel
theorem d_La_law_272 : decode b_La_law 272 = .ok (.ireturn, 1) := by decide +kernel
theorem d_La_law_273 : decode b_La_law 273 = .ok (.goto 833, 3) := by decide +kernel
theorem d_La_law_276 : decode b_La_law 276 = .ok (.aload_n 1, 1) := by decide +kernel
theorem d_La_law_277 : decode b_La_law 277 = .ok (.aload_n 0, 1) := by decide +kernel
theorem d_La_law_278 : decode b_La_law 278 = .ok (.iload 4, 2) := by decide +kernel
theorem d_La_law_280 : decode b_La_law 280 = .ok (.iconst 1, 1) := by decide +kernel
theorem d_La_law_281 : decode b_La_law 281 = .ok (.iadd, 1) := by decide +kernel
theorem d_La_law_282 : decode b_La_law 282 = .ok (.iaload, 1) := by decide +kernel
theorem d_La_law_283 : decode b_La_law 283 = .ok (.aload_n 3, 1) := by decide +kernel
theorem d_La_law_284 : decode b_La_law 284 = .ok (.invokestatic 81, 3) := by decide +kernel
theorem d_La_law_287 : decode b_La_law 287 = .ok (.istore 5, 2) := by decide +kernel
theorem d_La_law_289 : decode b_La_law 289 = .ok (.aload_n 2, 1) := by decide +kernel
theorem d_La_law_290 : decode b_La_law 290 = .ok (.aload_n 0, 1) := by decide +kernel
theorem d_La_law_291 : decode b_La_law 291 = .ok (.iload 4, 2) := by decide +kernel
theorem d_La_law_293 : decode b_La_law 293 = .ok (.iconst 1, 1) := by decide +kernel
theorem d_La_law_294 : decode b_La_law 294 = .ok (.iadd, 1) := by decide +kernel
theorem d_La_law_295 : decode b_La_law 295 = .ok (.iaload, 1) := by decide +kernel
theorem d_La_law_296 : decode b_La_law 296 = .ok (.invokevirtual 84, 3) := by decide +kernel
theorem d_La_law_299 : decode b_La_law 299 = .ok (.istore 6, 2) := by decide +kernel
theorem d_La_law_301 : decode b_La_law 301 = .ok (.aload_n 2, 1) := by decide +kernel
theorem d_La_law_302 : decode b_La_law 302 = .ok (.invokevirtual 74, 3) := by decide +kernel
theorem d_La_law_305 : decode b_La_law 305 = .ok (.iload 5, 2) := by decide +kernel
theorem d_La_law_307 : decode b_La_law 307 = .ok (.if_icmp .eq 5, 3) := by decide +kernel
theorem d_La_law_310 : decode b_La_law 310 = .ok (.iconst 0, 1) := by decide +kernel
theorem d_La_law_311 : decode b_La_law 311 = .ok (.ireturn, 1) := by decide +kernel
theorem d_La_law_312 : decode b_La_law 312 = .ok (.iload 5, 2) := by decide +kernel
theorem d_La_law_314 : decode b_La_law 314 = .ok (.ifCond .ne 15, 3) := by decide +kernel
theorem d_La_law_317 : decode b_La_law 317 = .ok (.aload_n 3, 1) := by decide +kernel
theorem d_La_law_318 : decode b_La_law 318 = .ok (.iconst 0, 1) := by decide +kernel
theorem d_La_law_319 : decode b_La_law 319 = .ok (.laload, 1) := by decide +kernel
theorem d_La_law_320 : decode b_La_law 320 = .ok (.iload 6, 2) := by decide +kernel
theorem d_La_law_322 : decode b_La_law 322 = .ok (.i2l, 1) := by decide +kernel
theorem d_La_law_323 : decode b_La_law 323 = .ok (.lcmp, 1) := by decide +kernel
theorem d_La_law_324 : decode b_La_law 324 = .ok (.ifCond .eq 5, 3) := by decide +kernel
theorem d_La_law_327 : decode b_La_law 327 = .ok (.iconst 0, 1) := by decide +kernel
theorem d_La_law_328 : decode b_La_law 328 = .ok (.ireturn, 1) := by decide +kernel
theorem d_La_law_329 : decode b_La_law 329 = .ok (.goto 777, 3) := by decide +kernel
theorem d_La_law_332 : decode b_La_law 332 = .ok (.aload_n 1, 1) := by decide +kernel
theorem d_La_law_333 : decode b_La_law 333 = .ok (.aload_n 0, 1) := by decide +kernel
theorem d_La_law_334 : decode b_La_law 334 = .ok (.iload 4, 2) := by decide +kernel
theorem d_La_law_336 : decode b_La_law 336 = .ok (.iconst 1, 1) := by decide +kernel
theorem d_La_law_337 : decode b_La_law 337 = .ok (.iadd, 1) := by decide +kernel
theorem d_La_law_338 : decode b_La_law 338 = .ok (.iaload, 1) := by decide +kernel
theorem d_La_law_339 : decode b_La_law 339 = .ok (.aload_n 0, 1) := by decide +kernel
theorem d_La_law_340 : decode b_La_law 340 = .ok (.iload 4, 2) := by decide +kernel
theorem d_La_law_342 : decode b_La_law 342 = .ok (.iconst 2, 1) := by decide +kernel
theorem d_La_law_343 : decode b_La_law 343 = .ok (.iadd, 1) := by decide +kernel
theorem d_La_law_344 : decode b_La_law 344 = .ok (.iaload, 1) := by decide +kernel
theorem d_La_law_345 : decode b_La_law 345 = .ok (.ifCond .eq 7, 3) := by decide +kernel
theorem d_La_law_348 : decode b_La_law 348 = .ok (.iconst 1, 1) := by decide +kernel
theorem d_La_law_349 : decode b_La_law 349 = .ok (.goto 4, 3) := by decide +kernel
theorem d_La_law_352 : decode b_La_law 352 = .ok (.iconst 0, 1) := by decide +kernel
theorem d_La_law_353 : decode b_La_law 353 = .ok (.aload_n 3, 1) := by decide +kernel
theorem d_La_law_354 : decode b_La_law 354 = .ok (.invokestatic 85, 3) := by decide +kernel
theorem d_La_law_357 : decode b_La_law 357 = .ok (.istore 5, 2) := by decide +kernel
theorem d_La_law_359 : decode b_La_law 359 = .ok (.aload_n 2, 1) := by decide +kernel
theorem d_La_law_360 : decode b_La_law 360 = .ok (.aload_n 0, 1) := by decide +kernel
