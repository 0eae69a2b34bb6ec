theorem d_law_271 : decode code 271 = .ok (.iaload, 1) := by decide +kernel
theorem d_law_272 : decode code 272 = .ok (.aload_n 3, 1) := by decide +kernel
theorem d_law_273 : decode code 273 = .ok (.invokestatic 104, 3) := by decide +kernel
theorem d_law_276 : decode code 276 = .ok (.istore 5, 2) := by decide +kernel
theorem d_law_278 : decode code 278 = .ok (.aload_n 2, 1) := by decide +kernel
theorem d_law_279 : decode code 279 = .ok (.aload_n 0, 1) := by decide +kernel
theorem d_law_280 : decode code 280 = .ok (.iload 4, 2) := by decide +kernel
theorem d_law_282 : decode code 282 = .ok (.iconst 1, 1) := by decide +kernel
theorem d_law_283 : decode code 283 = .ok (.iadd, 1) := by decide +kernel
theorem d_law_284 : decode code 284 = .ok (.iaload, 1) := by decide +kernel
theorem d_law_285 : decode code 285 = .ok (.aload_n 0, 1) := by decide +kernel
theorem d_law_286 : decode code 286 = .ok (.iload 4, 2) := by decide +kernel
theorem d_law_288 : decode code 288 = .ok (.iconst 2, 1) := by decide +kernel
theorem d_law_289 : decode code 289 = .ok (.iadd, 1) := by decide +kernel
theorem d_law_290 : decode code 290 = .ok (.iaload, 1) := by decide +kernel
theorem d_law_291 : decode code 291 = .ok (.invokevirtual 106, 3) := by decide +kernel
theorem d_law_294 : decode code 294 = .ok (.istore 6, 2) := by decide +kernel
theorem d_law_296 : decode code 296 = .ok (.aload_n 2, 1) := by decide +kernel
theorem d_law_297 : decode code 297 = .ok (.invokevirtual 97, 3) := by decide +kernel
theorem d_law_300 : decode code 300 = .ok (.iload 5, 2) := by decide +kernel
theorem d_law_302 : decode code 302 = .ok (.if_icmp .eq 5, 3) := by decide +kernel
theorem d_law_307 : decode code 307 = .ok (.iload 5, 2) := by decide +kernel
theorem d_law_309 : decode code 309 = .ok (.ifCond .ne 15, 3) := by decide +kernel
theorem d_law_312 : decode code 312 = .ok (.aload_n 3, 1) := by decide +kernel
theorem d_law_313 : decode code 313 = .ok (.iconst 0, 1) := by decide +kernel
theorem d_law_314 : decode code 314 = .ok (.laload, 1) := by decide +kernel
theorem d_law_315 : decode code 315 = .ok (.iload 6, 2) := by decide +kernel
theorem d_law_317 : decode code 317 = .ok (.i2l, 1) := by decide +kernel
theorem d_law_318 : decode code 318 = .ok (.lcmp, 1) := by decide +kernel
theorem d_law_319 : decode code 319 = .ok (.ifCond .eq 5, 3) := by decide +kernel
theorem d_law_324 : decode code 324 = .ok (.goto 1313, 3) := by decide +kernel
theorem d_law_327 : decode code 327 = .ok (.aload_n 1, 1) := by decide +kernel
theorem d_law_328 : decode code 328 = .ok (.aload_n 0, 1) := by decide +kernel
theorem d_law_329 : decode code 329 = .ok (.iload 4, 2) := by decide +kernel
theorem d_law_331 : decode code 331 = .ok (.iconst 1, 1) := by decide +kernel
theorem d_law_332 : decode code 332 = .ok (.iadd, 1) := by decide +kernel
theorem d_law_333 : decode code 333 = .ok (.iaload, 1) := by decide +kernel
theorem d_law_334 : decode code 334 = .ok (.aload_n 0, 1) := by decide +kernel
theorem d_law_335 : decode code 335 = .ok (.iload 4, 2) := by decide +kernel
theorem d_law_337 : decode code 337 = .ok (.iconst 2, 1) := by decide +kernel
theorem d_law_338 : decode code 338 = .ok (.iadd, 1) := by decide +kernel
theorem d_law_339 : decode code 339 = .ok (.iaload, 1) := by decide +kernel
theorem d_law_340 : decode code 340 = .ok (.aload_n 0, 1) := by decide +kernel
theorem d_law_341 : decode code 341 = .ok (.iload 4, 2) := by decide +kernel
theorem d_law_343 : decode code 343 = .ok (.iconst 3, 1) := by decide +kernel
theorem d_law_344 : decode code 344 = .ok (.iadd, 1) := by decide +kernel
theorem d_law_345 : decode code 345 = .ok (.iaload, 1) := by decide +kernel
theorem d_law_346 : decode code 346 = .ok (.aload_n 3, 1) := by decide +kernel
theorem d_law_347 : decode code 347 = .ok (.invokestatic 107, 3) := by decide +kernel
theorem d_law_350 : decode code 350 = .ok (.istore 5, 2) := by decide +kernel
