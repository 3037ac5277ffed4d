theorem dX10_init_261 : decode cX10_init 261 = .ok (.newarray .int, 2) := by decide +kernel
theorem dX10_init_263 : decode cX10_init 263 = .ok (.putfield 52, 3) := by decide +kernel
theorem dX10_init_266 : decode cX10_init 266 = .ok (.aload_n 0, 1) := by decide +kernel
theorem dX10_init_267 : decode cX10_init 267 = .ok (.sipush 144, 3) := by decide +kernel
theorem dX10_init_270 : decode cX10_init 270 = .ok (.newarray .int, 2) := by decide +kernel
theorem dX10_init_272 : decode cX10_init 272 = .ok (.putfield 55, 3) := by decide +kernel
theorem dX10_init_275 : decode cX10_init 275 = .ok (.aload_n 0, 1) := by decide +kernel
theorem dX10_init_276 : decode cX10_init 276 = .ok (.sipush 288, 3) := by decide +kernel
theorem dX10_init_279 : decode cX10_init 279 = .ok (.newarray .int, 2) := by decide +kernel
theorem dX10_init_281 : decode cX10_init 281 = .ok (.putfield 58, 3) := by decide +kernel
theorem dX10_init_284 : decode cX10_init 284 = .ok (.aload_n 0, 1) := by decide +kernel
theorem dX10_init_285 : decode cX10_init 285 = .ok (.bipush 12, 2) := by decide +kernel
theorem dX10_init_287 : decode cX10_init 287 = .ok (.newarray .int, 2) := by decide +kernel
theorem dX10_init_289 : decode cX10_init 289 = .ok (.putfield 61, 3) := by decide +kernel
theorem dX10_init_292 : decode cX10_init 292 = .ok (.aload_n 0, 1) := by decide +kernel
theorem dX10_init_293 : decode cX10_init 293 = .ok (.bipush 12, 2) := by decide +kernel
theorem dX10_init_295 : decode cX10_init 295 = .ok (.newarray .int, 2) := by decide +kernel
theorem dX10_init_297 : decode cX10_init 297 = .ok (.putfield 64, 3) := by decide +kernel
theorem dX10_init_300 : decode cX10_init 300 = .ok (.aload_n 0, 1) := by decide +kernel
theorem dX10_init_301 : decode cX10_init 301 = .ok (.bipush 12, 2) := by decide +kernel
theorem dX10_init_303 : decode cX10_init 303 = .ok (.newarray .int, 2) := by decide +kernel
theorem dX10_init_305 : decode cX10_init 305 = .ok (.putfield 67, 3) := by decide +kernel
theorem dX10_init_308 : decode cX10_init 308 = .ok (.aload_n 0, 1) := by decide +kernel
theorem dX10_init_309 : decode cX10_init 309 = .ok (.bipush 12, 2) := by decide +kernel
theorem dX10_init_311 : decode cX10_init 311 = .ok (.newarray .int, 2) := by decide +kernel
theorem dX10_init_313 : decode cX10_init 313 = .ok (.putfield 70, 3) := by decide +kernel
theorem dX10_init_316 : decode cX10_init 316 = .ok (.aload_n 0, 1) := by decide +kernel
theorem dX10_init_317 : decode cX10_init 317 = .ok (.bipush 13, 2) := by decide +kernel
theorem dX10_init_319 : decode cX10_init 319 = .ok (.newarray .int, 2) := by decide +kernel
theorem dX10_init_321 : decode cX10_init 321 = .ok (.putfield 73, 3) := by decide +kernel
theorem dX10_init_324 : decode cX10_init 324 = .ok (.aload_n 0, 1) := by decide +kernel
theorem dX10_init_325 : decode cX10_init 325 = .ok (.bipush 13, 2) := by decide +kernel
theorem dX10_init_327 : decode cX10_init 327 = .ok (.newarray .int, 2) := by decide +kernel
theorem dX10_init_329 : decode cX10_init 329 = .ok (.putfield 76, 3) := by decide +kernel
theorem dX10_init_332 : decode cX10_init 332 = .ok (.aload_n 0, 1) := by decide +kernel
theorem dX10_init_333 : decode cX10_init 333 = .ok (.sipush 9409, 3) := by decide +kernel
theorem dX10_init_336 : decode cX10_init 336 = .ok (.newarray .int, 2) := by decide +kernel
theorem dX10_init_338 : decode cX10_init 338 = .ok (.putfield 79, 3) := by decide +kernel
theorem dX10_init_341 : decode cX10_init 341 = .ok (.aload_n 0, 1) := by decide +kernel
theorem dX10_init_342 : decode cX10_init 342 = .ok (.sipush 9409, 3) := by decide +kernel
theorem dX10_init_345 : decode cX10_init 345 = .ok (.newarray .int, 2) := by decide +kernel
theorem dX10_init_347 : decode cX10_init 347 = .ok (.putfield 82, 3) := by decide +kernel
theorem dX10_init_350 : decode cX10_init 350 = .ok (.aload_n 0, 1) := by decide +kernel
theorem dX10_init_351 : decode cX10_init 351 = .ok (.sipush 156, 3) := by decide +kernel
theorem dX10_init_354 : decode cX10_init 354 = .ok (.newarray .int, 2) := by decide +kernel
theorem dX10_init_356 : decode cX10_init 356 = .ok (.putfield 85, 3) := by decide +kernel
theorem dX10_init_359 : decode cX10_init 359 = .ok (.aload_n 0, 1) := by decide +kernel
theorem dX10_init_360 : decode cX10_init 360 = .ok (.invokevirtual 88, 3) := by decide +kernel
theorem dX10_init_363 : decode cX10_init 363 = .ok (.return_, 1) := by decide +kernel
theorem dX10_thrown_0 : decode cX10_thrown 0 = .ok (.aload_n 0, 1) := by decide +kernel
theorem dX10_thrown_1 : decode cX10_thrown 1 = .ok (.getfield 91, 3) := by decide +kernel
theorem dX10_thrown_4 : decode cX10_thrown 4 = .ok (.ireturn, 1) := by decide +kernel
theorem dX10_in_0 : decode cX10_in 0 = .ok (.iload_n 0, 1) := by decide +kernel
theorem dX10_in_1 : decode cX10_in 1 = .ok (.iload_n 1, 1) := by decide +kernel
theorem dX10_in_2 : decode cX10_in 2 = .ok (.if_icmp .lt 12, 3) := by decide +kernel
theorem dX10_in_5 : decode cX10_in 5 = .ok (.iload_n 0, 1) := by decide +kernel
theorem dX10_in_6 : decode cX10_in 6 = .ok (.iload_n 2, 1) := by decide +kernel
theorem dX10_in_7 : decode cX10_in 7 = .ok (.if_icmp .gt 7, 3) := by decide +kernel
theorem dX10_in_10 : decode cX10_in 10 = .ok (.iconst 1, 1) := by decide +kernel
theorem dX10_in_11 : decode cX10_in 11 = .ok (.goto 4, 3) := by decide +kernel
theorem dX10_in_14 : decode cX10_in 14 = .ok (.iconst 0, 1) := by decide +kernel
theorem dX10_in_15 : decode cX10_in 15 = .ok (.ireturn, 1) := by decide +kernel
theorem dX10_copies_0 : decode cX10_copies 0 = .ok (.iconst 0, 1) := by decide +kernel
theorem dX10_copies_1 : decode cX10_copies 1 = .ok (.istore 4, 2) := by decide +kernel
theorem dX10_copies_3 : decode cX10_copies 3 = .ok (.iload 4, 2) := by decide +kernel
theorem dX10_copies_5 : decode cX10_copies 5 = .ok (.sipush 248, 3) := by decide +kernel
theorem dX10_copies_8 : decode cX10_copies 8 = .ok (.if_icmp .ge 21, 3) := by decide +kernel
theorem dX10_copies_11 : decode cX10_copies 11 = .ok (.aload_n 2, 1) := by decide +kernel
theorem dX10_copies_12 : decode cX10_copies 12 = .ok (.iload_n 3, 1) := by decide +kernel
theorem dX10_copies_13 : decode cX10_copies 13 = .ok (.iload 4, 2) := by decide +kernel
theorem dX10_copies_15 : decode cX10_copies 15 = .ok (.iadd, 1) := by decide +kernel
theorem dX10_copies_16 : decode cX10_copies 16 = .ok (.aload_n 0, 1) := by decide +kernel
theorem dX10_copies_17 : decode cX10_copies 17 = .ok (.iload_n 1, 1) := by decide +kernel
theorem dX10_copies_18 : decode cX10_copies 18 = .ok (.iload 4, 2) := by decide +kernel
theorem dX10_copies_20 : decode cX10_copies 20 = .ok (.iadd, 1) := by decide +kernel
theorem dX10_copies_21 : decode cX10_copies 21 = .ok (.iaload, 1) := by decide +kernel
theorem dX10_copies_22 : decode cX10_copies 22 = .ok (.iastore, 1) := by decide +kernel
theorem dX10_copies_23 : decode cX10_copies 23 = .ok (.iinc 4 1, 3) := by decide +kernel
theorem dX10_copies_26 : decode cX10_copies 26 = .ok (.goto (-23), 3) := by decide +kernel
theorem dX10_copies_29 : decode cX10_copies 29 = .ok (.return_, 1) := by decide +kernel
theorem dX10_begins_0 : decode cX10_begins 0 = .ok (.iconst 0, 1) := by decide +kernel
theorem dX10_begins_1 : decode cX10_begins 1 = .ok (.istore_n 1, 1) := by decide +kernel
theorem dX10_begins_2 : decode cX10_begins 2 = .ok (.iload_n 1, 1) := by decide +kernel
theorem dX10_begins_3 : decode cX10_begins 3 = .ok (.sipush 248, 3) := by decide +kernel
theorem dX10_begins_6 : decode cX10_begins 6 = .ok (.if_icmp .ge 16, 3) := by decide +kernel
theorem dX10_begins_9 : decode cX10_begins 9 = .ok (.aload_n 0, 1) := by decide +kernel
theorem dX10_begins_10 : decode cX10_begins 10 = .ok (.getfield 7, 3) := by decide +kernel
theorem dX10_begins_13 : decode cX10_begins 13 = .ok (.iload_n 1, 1) := by decide +kernel
theorem dX10_begins_14 : decode cX10_begins 14 = .ok (.iconst 0, 1) := by decide +kernel
theorem dX10_begins_15 : decode cX10_begins 15 = .ok (.iastore, 1) := by decide +kernel
theorem dX10_begins_16 : decode cX10_begins 16 = .ok (.iinc 1 1, 3) := by decide +kernel
theorem dX10_begins_19 : decode cX10_begins 19 = .ok (.goto (-17), 3) := by decide +kernel
theorem dX10_begins_22 : decode cX10_begins 22 = .ok (.aload_n 0, 1) := by decide +kernel
theorem dX10_begins_23 : decode cX10_begins 23 = .ok (.getfield 7, 3) := by decide +kernel
theorem dX10_begins_26 : decode cX10_begins 26 = .ok (.iconst 0, 1) := by decide +kernel
theorem dX10_begins_27 : decode cX10_begins 27 = .ok (.bipush 31, 2) := by decide +kernel
theorem dX10_begins_29 : decode cX10_begins 29 = .ok (.iastore, 1) := by decide +kernel
theorem dX10_begins_30 : decode cX10_begins 30 = .ok (.aload_n 0, 1) := by decide +kernel
theorem dX10_begins_31 : decode cX10_begins 31 = .ok (.getfield 7, 3) := by decide +kernel
theorem dX10_begins_34 : decode cX10_begins 34 = .ok (.iconst 1, 1) := by decide +kernel
theorem dX10_begins_35 : decode cX10_begins 35 = .ok (.iconst 1, 1) := by decide +kernel
theorem dX10_begins_36 : decode cX10_begins 36 = .ok (.iastore, 1) := by decide +kernel
theorem dX10_begins_37 : decode cX10_begins 37 = .ok (.aload_n 0, 1) := by decide +kernel
theorem dX10_begins_38 : decode cX10_begins 38 = .ok (.invokevirtual 94, 3) := by decide +kernel
theorem dX10_begins_41 : decode cX10_begins 41 = .ok (.return_, 1) := by decide +kernel
theorem dX10_n_0 : decode cX10_n 0 = .ok (.aload_n 0, 1) := by decide +kernel
theorem dX10_n_1 : decode cX10_n 1 = .ok (.getfield 7, 3) := by decide +kernel
theorem dX10_n_4 : decode cX10_n 4 = .ok (.iconst 1, 1) := by decide +kernel
theorem dX10_n_5 : decode cX10_n 5 = .ok (.iaload, 1) := by decide +kernel
theorem dX10_n_6 : decode cX10_n 6 = .ok (.ireturn, 1) := by decide +kernel
theorem dX10_p_0 : decode cX10_p 0 = .ok (.aload_n 0, 1) := by decide +kernel
theorem dX10_p_1 : decode cX10_p 1 = .ok (.getfield 7, 3) := by decide +kernel
theorem dX10_p_4 : decode cX10_p 4 = .ok (.iconst 0, 1) := by decide +kernel
theorem dX10_p_5 : decode cX10_p 5 = .ok (.iaload, 1) := by decide +kernel
theorem dX10_p_6 : decode cX10_p 6 = .ok (.ireturn, 1) := by decide +kernel
theorem dX10_mod_0 : decode cX10_mod 0 = .ok (.iload_n 1, 1) := by decide +kernel
theorem dX10_mod_1 : decode cX10_mod 1 = .ok (.aload_n 0, 1) := by decide +kernel
theorem dX10_mod_2 : decode cX10_mod 2 = .ok (.invokevirtual 97, 3) := by decide +kernel
theorem dX10_mod_5 : decode cX10_mod 5 = .ok (.irem, 1) := by decide +kernel
theorem dX10_mod_6 : decode cX10_mod 6 = .ok (.istore_n 2, 1) := by decide +kernel
theorem dX10_mod_7 : decode cX10_mod 7 = .ok (.iload_n 2, 1) := by decide +kernel
theorem dX10_mod_8 : decode cX10_mod 8 = .ok (.ifCond .ge 12, 3) := by decide +kernel
theorem dX10_mod_11 : decode cX10_mod 11 = .ok (.iload_n 2, 1) := by decide +kernel
theorem dX10_mod_12 : decode cX10_mod 12 = .ok (.aload_n 0, 1) := by decide +kernel
theorem dX10_mod_13 : decode cX10_mod 13 = .ok (.invokevirtual 97, 3) := by decide +kernel
theorem dX10_mod_16 : decode cX10_mod 16 = .ok (.iadd, 1) := by decide +kernel
theorem dX10_mod_17 : decode cX10_mod 17 = .ok (.goto 4, 3) := by decide +kernel
theorem dX10_mod_20 : decode cX10_mod 20 = .ok (.iload_n 2, 1) := by decide +kernel
theorem dX10_mod_21 : decode cX10_mod 21 = .ok (.ireturn, 1) := by decide +kernel
theorem dX10_inverse_0 : decode cX10_inverse 0 = .ok (.iconst 1, 1) := by decide +kernel
theorem dX10_inverse_1 : decode cX10_inverse 1 = .ok (.istore_n 2, 1) := by decide +kernel
theorem dX10_inverse_2 : decode cX10_inverse 2 = .ok (.iconst 0, 1) := by decide +kernel
theorem dX10_inverse_3 : decode cX10_inverse 3 = .ok (.istore_n 3, 1) := by decide +kernel
theorem dX10_inverse_4 : decode cX10_inverse 4 = .ok (.iload_n 3, 1) := by decide +kernel
theorem dX10_inverse_5 : decode cX10_inverse 5 = .ok (.aload_n 0, 1) := by decide +kernel
theorem dX10_inverse_6 : decode cX10_inverse 6 = .ok (.invokevirtual 97, 3) := by decide +kernel
theorem dX10_inverse_9 : decode cX10_inverse 9 = .ok (.iconst 2, 1) := by decide +kernel
theorem dX10_inverse_10 : decode cX10_inverse 10 = .ok (.isub, 1) := by decide +kernel
theorem dX10_inverse_11 : decode cX10_inverse 11 = .ok (.if_icmp .ge 18, 3) := by decide +kernel
theorem dX10_inverse_14 : decode cX10_inverse 14 = .ok (.iload_n 2, 1) := by decide +kernel
theorem dX10_inverse_15 : decode cX10_inverse 15 = .ok (.iload_n 1, 1) := by decide +kernel
theorem dX10_inverse_16 : decode cX10_inverse 16 = .ok (.imul, 1) := by decide +kernel
theorem dX10_inverse_17 : decode cX10_inverse 17 = .ok (.aload_n 0, 1) := by decide +kernel
theorem dX10_inverse_18 : decode cX10_inverse 18 = .ok (.invokevirtual 97, 3) := by decide +kernel
theorem dX10_inverse_21 : decode cX10_inverse 21 = .ok (.irem, 1) := by decide +kernel
theorem dX10_inverse_22 : decode cX10_inverse 22 = .ok (.istore_n 2, 1) := by decide +kernel
theorem dX10_inverse_23 : decode cX10_inverse 23 = .ok (.iinc 3 1, 3) := by decide +kernel
theorem dX10_inverse_26 : decode cX10_inverse 26 = .ok (.goto (-22), 3) := by decide +kernel
theorem dX10_inverse_29 : decode cX10_inverse 29 = .ok (.iload_n 2, 1) := by decide +kernel
theorem dX10_inverse_30 : decode cX10_inverse 30 = .ok (.ireturn, 1) := by decide +kernel
theorem dX10_isPrime_0 : decode cX10_isPrime 0 = .ok (.iload_n 1, 1) := by decide +kernel
theorem dX10_isPrime_1 : decode cX10_isPrime 1 = .ok (.bipush 13, 2) := by decide +kernel
theorem dX10_isPrime_3 : decode cX10_isPrime 3 = .ok (.bipush 97, 2) := by decide +kernel
theorem dX10_isPrime_5 : decode cX10_isPrime 5 = .ok (.invokestatic 101, 3) := by decide +kernel
theorem dX10_isPrime_8 : decode cX10_isPrime 8 = .ok (.istore_n 2, 1) := by decide +kernel
theorem dX10_isPrime_9 : decode cX10_isPrime 9 = .ok (.iconst 2, 1) := by decide +kernel
theorem dX10_isPrime_10 : decode cX10_isPrime 10 = .ok (.istore_n 3, 1) := by decide +kernel
theorem dX10_isPrime_11 : decode cX10_isPrime 11 = .ok (.iload_n 3, 1) := by decide +kernel
theorem dX10_isPrime_12 : decode cX10_isPrime 12 = .ok (.bipush 10, 2) := by decide +kernel
theorem dX10_isPrime_14 : decode cX10_isPrime 14 = .ok (.if_icmp .ge 25, 3) := by decide +kernel
theorem dX10_isPrime_17 : decode cX10_isPrime 17 = .ok (.iload_n 2, 1) := by decide +kernel
theorem dX10_isPrime_18 : decode cX10_isPrime 18 = .ok (.ifCond .eq 13, 3) := by decide +kernel
theorem dX10_isPrime_21 : decode cX10_isPrime 21 = .ok (.iload_n 1, 1) := by decide +kernel
theorem dX10_isPrime_22 : decode cX10_isPrime 22 = .ok (.iload_n 3, 1) := by decide +kernel
theorem dX10_isPrime_23 : decode cX10_isPrime 23 = .ok (.irem, 1) := by decide +kernel
theorem dX10_isPrime_24 : decode cX10_isPrime 24 = .ok (.ifCond .eq 7, 3) := by decide +kernel
theorem dX10_isPrime_27 : decode cX10_isPrime 27 = .ok (.iconst 1, 1) := by decide +kernel
theorem dX10_isPrime_28 : decode cX10_isPrime 28 = .ok (.goto 4, 3) := by decide +kernel
theorem dX10_isPrime_31 : decode cX10_isPrime 31 = .ok (.iconst 0, 1) := by decide +kernel
theorem dX10_isPrime_32 : decode cX10_isPrime 32 = .ok (.istore_n 2, 1) := by decide +kernel
theorem dX10_isPrime_33 : decode cX10_isPrime 33 = .ok (.iinc 3 1, 3) := by decide +kernel
theorem dX10_isPrime_36 : decode cX10_isPrime 36 = .ok (.goto (-25), 3) := by decide +kernel
theorem dX10_isPrime_39 : decode cX10_isPrime 39 = .ok (.iload_n 2, 1) := by decide +kernel
theorem dX10_isPrime_40 : decode cX10_isPrime 40 = .ok (.ireturn, 1) := by decide +kernel
theorem dX10_isAhead_0 : decode cX10_isAhead 0 = .ok (.iload_n 0, 1) := by decide +kernel
theorem dX10_isAhead_1 : decode cX10_isAhead 1 = .ok (.iload_n 1, 1) := by decide +kernel
theorem dX10_isAhead_2 : decode cX10_isAhead 2 = .ok (.iadd, 1) := by decide +kernel
theorem dX10_isAhead_3 : decode cX10_isAhead 3 = .ok (.iload_n 2, 1) := by decide +kernel
theorem dX10_isAhead_4 : decode cX10_isAhead 4 = .ok (.iload_n 3, 1) := by decide +kernel
theorem dX10_isAhead_5 : decode cX10_isAhead 5 = .ok (.iadd, 1) := by decide +kernel
theorem dX10_isAhead_6 : decode cX10_isAhead 6 = .ok (.if_icmp .eq 20, 3) := by decide +kernel
theorem dX10_isAhead_9 : decode cX10_isAhead 9 = .ok (.iload_n 0, 1) := by decide +kernel
theorem dX10_isAhead_10 : decode cX10_isAhead 10 = .ok (.iload_n 1, 1) := by decide +kernel
theorem dX10_isAhead_11 : decode cX10_isAhead 11 = .ok (.iadd, 1) := by decide +kernel
theorem dX10_isAhead_12 : decode cX10_isAhead 12 = .ok (.iload_n 2, 1) := by decide +kernel
theorem dX10_isAhead_13 : decode cX10_isAhead 13 = .ok (.iload_n 3, 1) := by decide +kernel
theorem dX10_isAhead_14 : decode cX10_isAhead 14 = .ok (.iadd, 1) := by decide +kernel
theorem dX10_isAhead_15 : decode cX10_isAhead 15 = .ok (.if_icmp .ge 7, 3) := by decide +kernel
theorem dX10_isAhead_18 : decode cX10_isAhead 18 = .ok (.iconst 1, 1) := by decide +kernel
theorem dX10_isAhead_19 : decode cX10_isAhead 19 = .ok (.goto 17, 3) := by decide +kernel
theorem dX10_isAhead_22 : decode cX10_isAhead 22 = .ok (.iconst 0, 1) := by decide +kernel
theorem dX10_isAhead_23 : decode cX10_isAhead 23 = .ok (.goto 13, 3) := by decide +kernel
theorem dX10_isAhead_26 : decode cX10_isAhead 26 = .ok (.iload_n 1, 1) := by decide +kernel
theorem dX10_isAhead_27 : decode cX10_isAhead 27 = .ok (.iload_n 3, 1) := by decide +kernel
theorem dX10_isAhead_28 : decode cX10_isAhead 28 = .ok (.if_icmp .ge 7, 3) := by decide +kernel
theorem dX10_isAhead_31 : decode cX10_isAhead 31 = .ok (.iconst 1, 1) := by decide +kernel
theorem dX10_isAhead_32 : decode cX10_isAhead 32 = .ok (.goto 4, 3) := by decide +kernel
theorem dX10_isAhead_35 : decode cX10_isAhead 35 = .ok (.iconst 0, 1) := by decide +kernel
theorem dX10_isAhead_36 : decode cX10_isAhead 36 = .ok (.ireturn, 1) := by decide +kernel
theorem dX10_monomialAt_0 : decode cX10_monomialAt 0 = .ok (.iconst 0, 1) := by decide +kernel
theorem dX10_monomialAt_1 : decode cX10_monomialAt 1 = .ok (.istore_n 3, 1) := by decide +kernel
theorem dX10_monomialAt_2 : decode cX10_monomialAt 2 = .ok (.iload_n 3, 1) := by decide +kernel
theorem dX10_monomialAt_3 : decode cX10_monomialAt 3 = .ok (.aload_n 0, 1) := by decide +kernel
theorem dX10_monomialAt_4 : decode cX10_monomialAt 4 = .ok (.invokevirtual 105, 3) := by decide +kernel
theorem dX10_monomialAt_7 : decode cX10_monomialAt 7 = .ok (.if_icmp .ge 36, 3) := by decide +kernel
theorem dX10_monomialAt_10 : decode cX10_monomialAt 10 = .ok (.aload_n 0, 1) := by decide +kernel
theorem dX10_monomialAt_11 : decode cX10_monomialAt 11 = .ok (.getfield 7, 3) := by decide +kernel
theorem dX10_monomialAt_14 : decode cX10_monomialAt 14 = .ok (.iconst 4, 1) := by decide +kernel
theorem dX10_monomialAt_15 : decode cX10_monomialAt 15 = .ok (.iload_n 3, 1) := by decide +kernel
theorem dX10_monomialAt_16 : decode cX10_monomialAt 16 = .ok (.iadd, 1) := by decide +kernel
theorem dX10_monomialAt_17 : decode cX10_monomialAt 17 = .ok (.iaload, 1) := by decide +kernel
theorem dX10_monomialAt_18 : decode cX10_monomialAt 18 = .ok (.iload_n 1, 1) := by decide +kernel
theorem dX10_monomialAt_19 : decode cX10_monomialAt 19 = .ok (.if_icmp .ne 18, 3) := by decide +kernel
theorem dX10_monomialAt_22 : decode cX10_monomialAt 22 = .ok (.aload_n 0, 1) := by decide +kernel
theorem dX10_monomialAt_23 : decode cX10_monomialAt 23 = .ok (.getfield 7, 3) := by decide +kernel
theorem dX10_monomialAt_26 : decode cX10_monomialAt 26 = .ok (.bipush 16, 2) := by decide +kernel
theorem dX10_monomialAt_28 : decode cX10_monomialAt 28 = .ok (.iload_n 3, 1) := by decide +kernel
theorem dX10_monomialAt_29 : decode cX10_monomialAt 29 = .ok (.iadd, 1) := by decide +kernel
theorem dX10_monomialAt_30 : decode cX10_monomialAt 30 = .ok (.iaload, 1) := by decide +kernel
theorem dX10_monomialAt_31 : decode cX10_monomialAt 31 = .ok (.iload_n 2, 1) := by decide +kernel
theorem dX10_monomialAt_32 : decode cX10_monomialAt 32 = .ok (.if_icmp .ne 5, 3) := by decide +kernel
theorem dX10_monomialAt_35 : decode cX10_monomialAt 35 = .ok (.iload_n 3, 1) := by decide +kernel
theorem dX10_monomialAt_36 : decode cX10_monomialAt 36 = .ok (.ireturn, 1) := by decide +kernel
theorem dX10_monomialAt_37 : decode cX10_monomialAt 37 = .ok (.iinc 3 1, 3) := by decide +kernel
theorem dX10_monomialAt_40 : decode cX10_monomialAt 40 = .ok (.goto (-38), 3) := by decide +kernel
theorem dX10_monomialAt_43 : decode cX10_monomialAt 43 = .ok (.iconst (-1), 1) := by decide +kernel
theorem dX10_monomialAt_44 : decode cX10_monomialAt 44 = .ok (.ireturn, 1) := by decide +kernel
theorem dX10_borderAt_0 : decode cX10_borderAt 0 = .ok (.iconst 0, 1) := by decide +kernel
theorem dX10_borderAt_1 : decode cX10_borderAt 1 = .ok (.istore_n 3, 1) := by decide +kernel
theorem dX10_borderAt_2 : decode cX10_borderAt 2 = .ok (.iload_n 3, 1) := by decide +kernel
theorem dX10_borderAt_3 : decode cX10_borderAt 3 = .ok (.aload_n 0, 1) := by decide +kernel
theorem dX10_borderAt_4 : decode cX10_borderAt 4 = .ok (.getfield 7, 3) := by decide +kernel
theorem dX10_borderAt_7 : decode cX10_borderAt 7 = .ok (.iconst 2, 1) := by decide +kernel
theorem dX10_borderAt_8 : decode cX10_borderAt 8 = .ok (.iaload, 1) := by decide +kernel
theorem dX10_borderAt_9 : decode cX10_borderAt 9 = .ok (.if_icmp .ge 37, 3) := by decide +kernel
theorem dX10_borderAt_12 : decode cX10_borderAt 12 = .ok (.aload_n 0, 1) := by decide +kernel
theorem dX10_borderAt_13 : decode cX10_borderAt 13 = .ok (.getfield 7, 3) := by decide +kernel
theorem dX10_borderAt_16 : decode cX10_borderAt 16 = .ok (.bipush 28, 2) := by decide +kernel
theorem dX10_borderAt_18 : decode cX10_borderAt 18 = .ok (.iload_n 3, 1) := by decide +kernel
theorem dX10_borderAt_19 : decode cX10_borderAt 19 = .ok (.iadd, 1) := by decide +kernel
theorem dX10_borderAt_20 : decode cX10_borderAt 20 = .ok (.iaload, 1) := by decide +kernel
theorem dX10_borderAt_21 : decode cX10_borderAt 21 = .ok (.iload_n 1, 1) := by decide +kernel
theorem dX10_borderAt_22 : decode cX10_borderAt 22 = .ok (.if_icmp .ne 18, 3) := by decide +kernel
theorem dX10_borderAt_25 : decode cX10_borderAt 25 = .ok (.aload_n 0, 1) := by decide +kernel
theorem dX10_borderAt_26 : decode cX10_borderAt 26 = .ok (.getfield 7, 3) := by decide +kernel
theorem dX10_borderAt_29 : decode cX10_borderAt 29 = .ok (.bipush 42, 2) := by decide +kernel
theorem dX10_borderAt_31 : decode cX10_borderAt 31 = .ok (.iload_n 3, 1) := by decide +kernel
theorem dX10_borderAt_32 : decode cX10_borderAt 32 = .ok (.iadd, 1) := by decide +kernel
theorem dX10_borderAt_33 : decode cX10_borderAt 33 = .ok (.iaload, 1) := by decide +kernel
theorem dX10_borderAt_34 : decode cX10_borderAt 34 = .ok (.iload_n 2, 1) := by decide +kernel
theorem dX10_borderAt_35 : decode cX10_borderAt 35 = .ok (.if_icmp .ne 5, 3) := by decide +kernel
theorem dX10_borderAt_38 : decode cX10_borderAt 38 = .ok (.iload_n 3, 1) := by decide +kernel
theorem dX10_borderAt_39 : decode cX10_borderAt 39 = .ok (.ireturn, 1) := by decide +kernel
theorem dX10_borderAt_40 : decode cX10_borderAt 40 = .ok (.iinc 3 1, 3) := by decide +kernel
theorem dX10_borderAt_43 : decode cX10_borderAt 43 = .ok (.goto (-41), 3) := by decide +kernel
theorem dX10_borderAt_46 : decode cX10_borderAt 46 = .ok (.iconst (-1), 1) := by decide +kernel
theorem dX10_borderAt_47 : decode cX10_borderAt 47 = .ok (.ireturn, 1) := by decide +kernel
theorem dX10_hasIt_0 : decode cX10_hasIt 0 = .ok (.aload_n 0, 1) := by decide +kernel
theorem dX10_hasIt_1 : decode cX10_hasIt 1 = .ok (.iload_n 1, 1) := by decide +kernel
theorem dX10_hasIt_2 : decode cX10_hasIt 2 = .ok (.iload_n 2, 1) := by decide +kernel
theorem dX10_hasIt_3 : decode cX10_hasIt 3 = .ok (.invokevirtual 108, 3) := by decide +kernel
theorem dX10_hasIt_6 : decode cX10_hasIt 6 = .ok (.iconst (-1), 1) := by decide +kernel
theorem dX10_hasIt_7 : decode cX10_hasIt 7 = .ok (.if_icmp .eq 7, 3) := by decide +kernel
theorem dX10_hasIt_10 : decode cX10_hasIt 10 = .ok (.iconst 1, 1) := by decide +kernel
theorem dX10_hasIt_11 : decode cX10_hasIt 11 = .ok (.goto 4, 3) := by decide +kernel
theorem dX10_hasIt_14 : decode cX10_hasIt 14 = .ok (.iconst 0, 1) := by decide +kernel
theorem dX10_hasIt_15 : decode cX10_hasIt 15 = .ok (.ireturn, 1) := by decide +kernel
theorem dX10_hasDivisors_0 : decode cX10_hasDivisors 0 = .ok (.iload_n 1, 1) := by decide +kernel
theorem dX10_hasDivisors_1 : decode cX10_hasDivisors 1 = .ok (.ifCond .eq 14, 3) := by decide +kernel
theorem dX10_hasDivisors_4 : decode cX10_hasDivisors 4 = .ok (.aload_n 0, 1) := by decide +kernel
theorem dX10_hasDivisors_5 : decode cX10_hasDivisors 5 = .ok (.iload_n 1, 1) := by decide +kernel
theorem dX10_hasDivisors_6 : decode cX10_hasDivisors 6 = .ok (.iconst 1, 1) := by decide +kernel
theorem dX10_hasDivisors_7 : decode cX10_hasDivisors 7 = .ok (.isub, 1) := by decide +kernel
theorem dX10_hasDivisors_8 : decode cX10_hasDivisors 8 = .ok (.iload_n 2, 1) := by decide +kernel
theorem dX10_hasDivisors_9 : decode cX10_hasDivisors 9 = .ok (.invokevirtual 112, 3) := by decide +kernel
theorem dX10_hasDivisors_12 : decode cX10_hasDivisors 12 = .ok (.ifCond .eq 22, 3) := by decide +kernel
theorem dX10_hasDivisors_15 : decode cX10_hasDivisors 15 = .ok (.iload_n 2, 1) := by decide +kernel
theorem dX10_hasDivisors_16 : decode cX10_hasDivisors 16 = .ok (.ifCond .eq 14, 3) := by decide +kernel
theorem dX10_hasDivisors_19 : decode cX10_hasDivisors 19 = .ok (.aload_n 0, 1) := by decide +kernel
theorem dX10_hasDivisors_20 : decode cX10_hasDivisors 20 = .ok (.iload_n 1, 1) := by decide +kernel
theorem dX10_hasDivisors_21 : decode cX10_hasDivisors 21 = .ok (.iload_n 2, 1) := by decide +kernel
theorem dX10_hasDivisors_22 : decode cX10_hasDivisors 22 = .ok (.iconst 1, 1) := by decide +kernel
theorem dX10_hasDivisors_23 : decode cX10_hasDivisors 23 = .ok (.isub, 1) := by decide +kernel
theorem dX10_hasDivisors_24 : decode cX10_hasDivisors 24 = .ok (.invokevirtual 112, 3) := by decide +kernel
theorem dX10_hasDivisors_27 : decode cX10_hasDivisors 27 = .ok (.ifCond .eq 7, 3) := by decide +kernel
theorem dX10_hasDivisors_30 : decode cX10_hasDivisors 30 = .ok (.iconst 1, 1) := by decide +kernel
theorem dX10_hasDivisors_31 : decode cX10_hasDivisors 31 = .ok (.goto 4, 3) := by decide +kernel
theorem dX10_hasDivisors_34 : decode cX10_hasDivisors 34 = .ok (.iconst 0, 1) := by decide +kernel
theorem dX10_hasDivisors_35 : decode cX10_hasDivisors 35 = .ok (.ireturn, 1) := by decide +kernel
theorem dX10_canJoin_0 : decode cX10_canJoin 0 = .ok (.aload_n 0, 1) := by decide +kernel
theorem dX10_canJoin_1 : decode cX10_canJoin 1 = .ok (.iload_n 1, 1) := by decide +kernel
theorem dX10_canJoin_2 : decode cX10_canJoin 2 = .ok (.iload_n 2, 1) := by decide +kernel
theorem dX10_canJoin_3 : decode cX10_canJoin 3 = .ok (.invokevirtual 112, 3) := by decide +kernel
theorem dX10_canJoin_6 : decode cX10_canJoin 6 = .ok (.ifCond .ne 16, 3) := by decide +kernel
theorem dX10_canJoin_9 : decode cX10_canJoin 9 = .ok (.aload_n 0, 1) := by decide +kernel
theorem dX10_canJoin_10 : decode cX10_canJoin 10 = .ok (.iload_n 1, 1) := by decide +kernel
theorem dX10_canJoin_11 : decode cX10_canJoin 11 = .ok (.iload_n 2, 1) := by decide +kernel
theorem dX10_canJoin_12 : decode cX10_canJoin 12 = .ok (.invokevirtual 116, 3) := by decide +kernel
theorem dX10_canJoin_15 : decode cX10_canJoin 15 = .ok (.ifCond .eq 7, 3) := by decide +kernel
theorem dX10_canJoin_18 : decode cX10_canJoin 18 = .ok (.iconst 1, 1) := by decide +kernel
theorem dX10_canJoin_19 : decode cX10_canJoin 19 = .ok (.goto 4, 3) := by decide +kernel
theorem dX10_canJoin_22 : decode cX10_canJoin 22 = .ok (.iconst 0, 1) := by decide +kernel
theorem dX10_canJoin_23 : decode cX10_canJoin 23 = .ok (.ireturn, 1) := by decide +kernel
theorem dX10_canLeave_0 : decode cX10_canLeave 0 = .ok (.aload_n 0, 1) := by decide +kernel
theorem dX10_canLeave_1 : decode cX10_canLeave 1 = .ok (.iload_n 1, 1) := by decide +kernel
theorem dX10_canLeave_2 : decode cX10_canLeave 2 = .ok (.iload_n 2, 1) := by decide +kernel
theorem dX10_canLeave_3 : decode cX10_canLeave 3 = .ok (.invokevirtual 112, 3) := by decide +kernel
theorem dX10_canLeave_6 : decode cX10_canLeave 6 = .ok (.ifCond .eq 35, 3) := by decide +kernel
theorem dX10_canLeave_9 : decode cX10_canLeave 9 = .ok (.iload_n 1, 1) := by decide +kernel
theorem dX10_canLeave_10 : decode cX10_canLeave 10 = .ok (.iload_n 2, 1) := by decide +kernel
theorem dX10_canLeave_11 : decode cX10_canLeave 11 = .ok (.iadd, 1) := by decide +kernel
theorem dX10_canLeave_12 : decode cX10_canLeave 12 = .ok (.ifCond .le 29, 3) := by decide +kernel
theorem dX10_canLeave_15 : decode cX10_canLeave 15 = .ok (.aload_n 0, 1) := by decide +kernel
theorem dX10_canLeave_16 : decode cX10_canLeave 16 = .ok (.iload_n 1, 1) := by decide +kernel
theorem dX10_canLeave_17 : decode cX10_canLeave 17 = .ok (.iconst 1, 1) := by decide +kernel
theorem dX10_canLeave_18 : decode cX10_canLeave 18 = .ok (.iadd, 1) := by decide +kernel
theorem dX10_canLeave_19 : decode cX10_canLeave 19 = .ok (.iload_n 2, 1) := by decide +kernel
theorem dX10_canLeave_20 : decode cX10_canLeave 20 = .ok (.invokevirtual 112, 3) := by decide +kernel
theorem dX10_canLeave_23 : decode cX10_canLeave 23 = .ok (.ifCond .ne 18, 3) := by decide +kernel
theorem dX10_canLeave_26 : decode cX10_canLeave 26 = .ok (.aload_n 0, 1) := by decide +kernel
theorem dX10_canLeave_27 : decode cX10_canLeave 27 = .ok (.iload_n 1, 1) := by decide +kernel
theorem dX10_canLeave_28 : decode cX10_canLeave 28 = .ok (.iload_n 2, 1) := by decide +kernel
theorem dX10_canLeave_29 : decode cX10_canLeave 29 = .ok (.iconst 1, 1) := by decide +kernel
theorem dX10_canLeave_30 : decode cX10_canLeave 30 = .ok (.iadd, 1) := by decide +kernel
theorem dX10_canLeave_31 : decode cX10_canLeave 31 = .ok (.invokevirtual 112, 3) := by decide +kernel
theorem dX10_canLeave_34 : decode cX10_canLeave 34 = .ok (.ifCond .ne 7, 3) := by decide +kernel
theorem dX10_canLeave_37 : decode cX10_canLeave 37 = .ok (.iconst 1, 1) := by decide +kernel
theorem dX10_canLeave_38 : decode cX10_canLeave 38 = .ok (.goto 4, 3) := by decide +kernel
theorem dX10_canLeave_41 : decode cX10_canLeave 41 = .ok (.iconst 0, 1) := by decide +kernel
theorem dX10_canLeave_42 : decode cX10_canLeave 42 = .ok (.ireturn, 1) := by decide +kernel
theorem dX10_addsBorder_0 : decode cX10_addsBorder 0 = .ok (.aload_n 0, 1) := by decide +kernel
theorem dX10_addsBorder_1 : decode cX10_addsBorder 1 = .ok (.iload_n 1, 1) := by decide +kernel
theorem dX10_addsBorder_2 : decode cX10_addsBorder 2 = .ok (.iload_n 2, 1) := by decide +kernel
theorem dX10_addsBorder_3 : decode cX10_addsBorder 3 = .ok (.invokevirtual 112, 3) := by decide +kernel
theorem dX10_addsBorder_6 : decode cX10_addsBorder 6 = .ok (.ifCond .ne 13, 3) := by decide +kernel
theorem dX10_addsBorder_9 : decode cX10_addsBorder 9 = .ok (.aload_n 0, 1) := by decide +kernel
theorem dX10_addsBorder_10 : decode cX10_addsBorder 10 = .ok (.iload_n 1, 1) := by decide +kernel
theorem dX10_addsBorder_11 : decode cX10_addsBorder 11 = .ok (.iload_n 2, 1) := by decide +kernel
theorem dX10_addsBorder_12 : decode cX10_addsBorder 12 = .ok (.invokevirtual 119, 3) := by decide +kernel
theorem dX10_addsBorder_15 : decode cX10_addsBorder 15 = .ok (.iconst (-1), 1) := by decide +kernel
theorem dX10_addsBorder_16 : decode cX10_addsBorder 16 = .ok (.if_icmp .eq 4, 3) := by decide +kernel
theorem dX10_addsBorder_19 : decode cX10_addsBorder 19 = .ok (.return_, 1) := by decide +kernel
theorem dX10_addsBorder_20 : decode cX10_addsBorder 20 = .ok (.aload_n 0, 1) := by decide +kernel
theorem dX10_addsBorder_21 : decode cX10_addsBorder 21 = .ok (.getfield 7, 3) := by decide +kernel
theorem dX10_addsBorder_24 : decode cX10_addsBorder 24 = .ok (.iconst 2, 1) := by decide +kernel
theorem dX10_addsBorder_25 : decode cX10_addsBorder 25 = .ok (.iaload, 1) := by decide +kernel
theorem dX10_addsBorder_26 : decode cX10_addsBorder 26 = .ok (.istore_n 3, 1) := by decide +kernel
theorem dX10_addsBorder_27 : decode cX10_addsBorder 27 = .ok (.iload_n 3, 1) := by decide +kernel
theorem dX10_addsBorder_28 : decode cX10_addsBorder 28 = .ok (.ifCond .le 79, 3) := by decide +kernel
theorem dX10_addsBorder_31 : decode cX10_addsBorder 31 = .ok (.iload_n 1, 1) := by decide +kernel
theorem dX10_addsBorder_32 : decode cX10_addsBorder 32 = .ok (.iload_n 2, 1) := by decide +kernel
theorem dX10_addsBorder_33 : decode cX10_addsBorder 33 = .ok (.aload_n 0, 1) := by decide +kernel
theorem dX10_addsBorder_34 : decode cX10_addsBorder 34 = .ok (.getfield 7, 3) := by decide +kernel
theorem dX10_addsBorder_37 : decode cX10_addsBorder 37 = .ok (.bipush 28, 2) := by decide +kernel
theorem dX10_addsBorder_39 : decode cX10_addsBorder 39 = .ok (.iload_n 3, 1) := by decide +kernel
theorem dX10_addsBorder_40 : decode cX10_addsBorder 40 = .ok (.iadd, 1) := by decide +kernel
theorem dX10_addsBorder_41 : decode cX10_addsBorder 41 = .ok (.iconst 1, 1) := by decide +kernel
theorem dX10_addsBorder_42 : decode cX10_addsBorder 42 = .ok (.isub, 1) := by decide +kernel
theorem dX10_addsBorder_43 : decode cX10_addsBorder 43 = .ok (.iaload, 1) := by decide +kernel
theorem dX10_addsBorder_44 : decode cX10_addsBorder 44 = .ok (.aload_n 0, 1) := by decide +kernel
theorem dX10_addsBorder_45 : decode cX10_addsBorder 45 = .ok (.getfield 7, 3) := by decide +kernel
theorem dX10_addsBorder_48 : decode cX10_addsBorder 48 = .ok (.bipush 42, 2) := by decide +kernel
theorem dX10_addsBorder_50 : decode cX10_addsBorder 50 = .ok (.iload_n 3, 1) := by decide +kernel
theorem dX10_addsBorder_51 : decode cX10_addsBorder 51 = .ok (.iadd, 1) := by decide +kernel
theorem dX10_addsBorder_52 : decode cX10_addsBorder 52 = .ok (.iconst 1, 1) := by decide +kernel
theorem dX10_addsBorder_53 : decode cX10_addsBorder 53 = .ok (.isub, 1) := by decide +kernel
theorem dX10_addsBorder_54 : decode cX10_addsBorder 54 = .ok (.iaload, 1) := by decide +kernel
theorem dX10_addsBorder_55 : decode cX10_addsBorder 55 = .ok (.invokestatic 122, 3) := by decide +kernel
theorem dX10_addsBorder_58 : decode cX10_addsBorder 58 = .ok (.ifCond .eq 49, 3) := by decide +kernel
theorem dX10_addsBorder_61 : decode cX10_addsBorder 61 = .ok (.aload_n 0, 1) := by decide +kernel
theorem dX10_addsBorder_62 : decode cX10_addsBorder 62 = .ok (.getfield 7, 3) := by decide +kernel
theorem dX10_addsBorder_65 : decode cX10_addsBorder 65 = .ok (.bipush 28, 2) := by decide +kernel
theorem dX10_addsBorder_67 : decode cX10_addsBorder 67 = .ok (.iload_n 3, 1) := by decide +kernel
theorem dX10_addsBorder_68 : decode cX10_addsBorder 68 = .ok (.iadd, 1) := by decide +kernel
theorem dX10_addsBorder_69 : decode cX10_addsBorder 69 = .ok (.aload_n 0, 1) := by decide +kernel
theorem dX10_addsBorder_70 : decode cX10_addsBorder 70 = .ok (.getfield 7, 3) := by decide +kernel
theorem dX10_addsBorder_73 : decode cX10_addsBorder 73 = .ok (.bipush 28, 2) := by decide +kernel
theorem dX10_addsBorder_75 : decode cX10_addsBorder 75 = .ok (.iload_n 3, 1) := by decide +kernel
theorem dX10_addsBorder_76 : decode cX10_addsBorder 76 = .ok (.iadd, 1) := by decide +kernel
theorem dX10_addsBorder_77 : decode cX10_addsBorder 77 = .ok (.iconst 1, 1) := by decide +kernel
theorem dX10_addsBorder_78 : decode cX10_addsBorder 78 = .ok (.isub, 1) := by decide +kernel
theorem dX10_addsBorder_79 : decode cX10_addsBorder 79 = .ok (.iaload, 1) := by decide +kernel
theorem dX10_addsBorder_80 : decode cX10_addsBorder 80 = .ok (.iastore, 1) := by decide +kernel
theorem dX10_addsBorder_81 : decode cX10_addsBorder 81 = .ok (.aload_n 0, 1) := by decide +kernel
theorem dX10_addsBorder_82 : decode cX10_addsBorder 82 = .ok (.getfield 7, 3) := by decide +kernel
theorem dX10_addsBorder_85 : decode cX10_addsBorder 85 = .ok (.bipush 42, 2) := by decide +kernel
theorem dX10_addsBorder_87 : decode cX10_addsBorder 87 = .ok (.iload_n 3, 1) := by decide +kernel
theorem dX10_addsBorder_88 : decode cX10_addsBorder 88 = .ok (.iadd, 1) := by decide +kernel
theorem dX10_addsBorder_89 : decode cX10_addsBorder 89 = .ok (.aload_n 0, 1) := by decide +kernel
theorem dX10_addsBorder_90 : decode cX10_addsBorder 90 = .ok (.getfield 7, 3) := by decide +kernel
theorem dX10_addsBorder_93 : decode cX10_addsBorder 93 = .ok (.bipush 42, 2) := by decide +kernel
theorem dX10_addsBorder_95 : decode cX10_addsBorder 95 = .ok (.iload_n 3, 1) := by decide +kernel
theorem dX10_addsBorder_96 : decode cX10_addsBorder 96 = .ok (.iadd, 1) := by decide +kernel
theorem dX10_addsBorder_97 : decode cX10_addsBorder 97 = .ok (.iconst 1, 1) := by decide +kernel
theorem dX10_addsBorder_98 : decode cX10_addsBorder 98 = .ok (.isub, 1) := by decide +kernel
theorem dX10_addsBorder_99 : decode cX10_addsBorder 99 = .ok (.iaload, 1) := by decide +kernel
theorem dX10_addsBorder_100 : decode cX10_addsBorder 100 = .ok (.iastore, 1) := by decide +kernel
theorem dX10_addsBorder_101 : decode cX10_addsBorder 101 = .ok (.iinc 3 (-1), 3) := by decide +kernel
theorem dX10_addsBorder_104 : decode cX10_addsBorder 104 = .ok (.goto (-77), 3) := by decide +kernel
theorem dX10_addsBorder_107 : decode cX10_addsBorder 107 = .ok (.aload_n 0, 1) := by decide +kernel
theorem dX10_addsBorder_108 : decode cX10_addsBorder 108 = .ok (.getfield 7, 3) := by decide +kernel
theorem dX10_addsBorder_111 : decode cX10_addsBorder 111 = .ok (.bipush 28, 2) := by decide +kernel
theorem dX10_addsBorder_113 : decode cX10_addsBorder 113 = .ok (.iload_n 3, 1) := by decide +kernel
theorem dX10_addsBorder_114 : decode cX10_addsBorder 114 = .ok (.iadd, 1) := by decide +kernel
theorem dX10_addsBorder_115 : decode cX10_addsBorder 115 = .ok (.iload_n 1, 1) := by decide +kernel
theorem dX10_addsBorder_116 : decode cX10_addsBorder 116 = .ok (.iastore, 1) := by decide +kernel
theorem dX10_addsBorder_117 : decode cX10_addsBorder 117 = .ok (.aload_n 0, 1) := by decide +kernel
theorem dX10_addsBorder_118 : decode cX10_addsBorder 118 = .ok (.getfield 7, 3) := by decide +kernel
theorem dX10_addsBorder_121 : decode cX10_addsBorder 121 = .ok (.bipush 42, 2) := by decide +kernel
theorem dX10_addsBorder_123 : decode cX10_addsBorder 123 = .ok (.iload_n 3, 1) := by decide +kernel
theorem dX10_addsBorder_124 : decode cX10_addsBorder 124 = .ok (.iadd, 1) := by decide +kernel
theorem dX10_addsBorder_125 : decode cX10_addsBorder 125 = .ok (.iload_n 2, 1) := by decide +kernel
theorem dX10_addsBorder_126 : decode cX10_addsBorder 126 = .ok (.iastore, 1) := by decide +kernel
theorem dX10_addsBorder_127 : decode cX10_addsBorder 127 = .ok (.aload_n 0, 1) := by decide +kernel
theorem dX10_addsBorder_128 : decode cX10_addsBorder 128 = .ok (.getfield 7, 3) := by decide +kernel
theorem dX10_addsBorder_131 : decode cX10_addsBorder 131 = .ok (.iconst 2, 1) := by decide +kernel
theorem dX10_addsBorder_132 : decode cX10_addsBorder 132 = .ok (.dup2, 1) := by decide +kernel
theorem dX10_addsBorder_133 : decode cX10_addsBorder 133 = .ok (.iaload, 1) := by decide +kernel
theorem dX10_addsBorder_134 : decode cX10_addsBorder 134 = .ok (.iconst 1, 1) := by decide +kernel
theorem dX10_addsBorder_135 : decode cX10_addsBorder 135 = .ok (.iadd, 1) := by decide +kernel
theorem dX10_addsBorder_136 : decode cX10_addsBorder 136 = .ok (.iastore, 1) := by decide +kernel
theorem dX10_addsBorder_137 : decode cX10_addsBorder 137 = .ok (.return_, 1) := by decide +kernel
theorem dX10_laysBorder_0 : decode cX10_laysBorder 0 = .ok (.aload_n 0, 1) := by decide +kernel
theorem dX10_laysBorder_1 : decode cX10_laysBorder 1 = .ok (.getfield 7, 3) := by decide +kernel
theorem dX10_laysBorder_4 : decode cX10_laysBorder 4 = .ok (.iconst 2, 1) := by decide +kernel
theorem dX10_laysBorder_5 : decode cX10_laysBorder 5 = .ok (.iconst 0, 1) := by decide +kernel
theorem dX10_laysBorder_6 : decode cX10_laysBorder 6 = .ok (.iastore, 1) := by decide +kernel
theorem dX10_laysBorder_7 : decode cX10_laysBorder 7 = .ok (.iconst 0, 1) := by decide +kernel
theorem dX10_laysBorder_8 : decode cX10_laysBorder 8 = .ok (.istore_n 1, 1) := by decide +kernel
theorem dX10_laysBorder_9 : decode cX10_laysBorder 9 = .ok (.iload_n 1, 1) := by decide +kernel
theorem dX10_laysBorder_10 : decode cX10_laysBorder 10 = .ok (.aload_n 0, 1) := by decide +kernel
theorem dX10_laysBorder_11 : decode cX10_laysBorder 11 = .ok (.invokevirtual 105, 3) := by decide +kernel
theorem dX10_laysBorder_14 : decode cX10_laysBorder 14 = .ok (.if_icmp .ge 55, 3) := by decide +kernel
theorem dX10_laysBorder_17 : decode cX10_laysBorder 17 = .ok (.aload_n 0, 1) := by decide +kernel
theorem dX10_laysBorder_18 : decode cX10_laysBorder 18 = .ok (.aload_n 0, 1) := by decide +kernel
theorem dX10_laysBorder_19 : decode cX10_laysBorder 19 = .ok (.getfield 7, 3) := by decide +kernel
theorem dX10_laysBorder_22 : decode cX10_laysBorder 22 = .ok (.iconst 4, 1) := by decide +kernel
theorem dX10_laysBorder_23 : decode cX10_laysBorder 23 = .ok (.iload_n 1, 1) := by decide +kernel
theorem dX10_laysBorder_24 : decode cX10_laysBorder 24 = .ok (.iadd, 1) := by decide +kernel
theorem dX10_laysBorder_25 : decode cX10_laysBorder 25 = .ok (.iaload, 1) := by decide +kernel
theorem dX10_laysBorder_26 : decode cX10_laysBorder 26 = .ok (.iconst 1, 1) := by decide +kernel
theorem dX10_laysBorder_27 : decode cX10_laysBorder 27 = .ok (.iadd, 1) := by decide +kernel
theorem dX10_laysBorder_28 : decode cX10_laysBorder 28 = .ok (.aload_n 0, 1) := by decide +kernel
theorem dX10_laysBorder_29 : decode cX10_laysBorder 29 = .ok (.getfield 7, 3) := by decide +kernel
theorem dX10_laysBorder_32 : decode cX10_laysBorder 32 = .ok (.bipush 16, 2) := by decide +kernel
theorem dX10_laysBorder_34 : decode cX10_laysBorder 34 = .ok (.iload_n 1, 1) := by decide +kernel
theorem dX10_laysBorder_35 : decode cX10_laysBorder 35 = .ok (.iadd, 1) := by decide +kernel
theorem dX10_laysBorder_36 : decode cX10_laysBorder 36 = .ok (.iaload, 1) := by decide +kernel
theorem dX10_laysBorder_37 : decode cX10_laysBorder 37 = .ok (.invokevirtual 126, 3) := by decide +kernel
theorem dX10_laysBorder_40 : decode cX10_laysBorder 40 = .ok (.aload_n 0, 1) := by decide +kernel
theorem dX10_laysBorder_41 : decode cX10_laysBorder 41 = .ok (.aload_n 0, 1) := by decide +kernel
theorem dX10_laysBorder_42 : decode cX10_laysBorder 42 = .ok (.getfield 7, 3) := by decide +kernel
theorem dX10_laysBorder_45 : decode cX10_laysBorder 45 = .ok (.iconst 4, 1) := by decide +kernel
theorem dX10_laysBorder_46 : decode cX10_laysBorder 46 = .ok (.iload_n 1, 1) := by decide +kernel
theorem dX10_laysBorder_47 : decode cX10_laysBorder 47 = .ok (.iadd, 1) := by decide +kernel
theorem dX10_laysBorder_48 : decode cX10_laysBorder 48 = .ok (.iaload, 1) := by decide +kernel
theorem dX10_laysBorder_49 : decode cX10_laysBorder 49 = .ok (.aload_n 0, 1) := by decide +kernel
theorem dX10_laysBorder_50 : decode cX10_laysBorder 50 = .ok (.getfield 7, 3) := by decide +kernel
theorem dX10_laysBorder_53 : decode cX10_laysBorder 53 = .ok (.bipush 16, 2) := by decide +kernel
theorem dX10_laysBorder_55 : decode cX10_laysBorder 55 = .ok (.iload_n 1, 1) := by decide +kernel
theorem dX10_laysBorder_56 : decode cX10_laysBorder 56 = .ok (.iadd, 1) := by decide +kernel
theorem dX10_laysBorder_57 : decode cX10_laysBorder 57 = .ok (.iaload, 1) := by decide +kernel
theorem dX10_laysBorder_58 : decode cX10_laysBorder 58 = .ok (.iconst 1, 1) := by decide +kernel
theorem dX10_laysBorder_59 : decode cX10_laysBorder 59 = .ok (.iadd, 1) := by decide +kernel
theorem dX10_laysBorder_60 : decode cX10_laysBorder 60 = .ok (.invokevirtual 126, 3) := by decide +kernel
theorem dX10_laysBorder_63 : decode cX10_laysBorder 63 = .ok (.iinc 1 1, 3) := by decide +kernel
theorem dX10_laysBorder_66 : decode cX10_laysBorder 66 = .ok (.goto (-57), 3) := by decide +kernel
theorem dX10_laysBorder_69 : decode cX10_laysBorder 69 = .ok (.iconst 0, 1) := by decide +kernel
theorem dX10_laysBorder_70 : decode cX10_laysBorder 70 = .ok (.istore_n 1, 1) := by decide +kernel
theorem dX10_laysBorder_71 : decode cX10_laysBorder 71 = .ok (.iload_n 1, 1) := by decide +kernel
theorem dX10_laysBorder_72 : decode cX10_laysBorder 72 = .ok (.sipush 168, 3) := by decide +kernel
theorem dX10_laysBorder_75 : decode cX10_laysBorder 75 = .ok (.if_icmp .ge 19, 3) := by decide +kernel
theorem dX10_laysBorder_78 : decode cX10_laysBorder 78 = .ok (.aload_n 0, 1) := by decide +kernel
theorem dX10_laysBorder_79 : decode cX10_laysBorder 79 = .ok (.getfield 7, 3) := by decide +kernel
theorem dX10_laysBorder_82 : decode cX10_laysBorder 82 = .ok (.bipush 56, 2) := by decide +kernel
theorem dX10_laysBorder_84 : decode cX10_laysBorder 84 = .ok (.iload_n 1, 1) := by decide +kernel
theorem dX10_laysBorder_85 : decode cX10_laysBorder 85 = .ok (.iadd, 1) := by decide +kernel
theorem dX10_laysBorder_86 : decode cX10_laysBorder 86 = .ok (.iconst 0, 1) := by decide +kernel
theorem dX10_laysBorder_87 : decode cX10_laysBorder 87 = .ok (.iastore, 1) := by decide +kernel
theorem dX10_laysBorder_88 : decode cX10_laysBorder 88 = .ok (.iinc 1 1, 3) := by decide +kernel
theorem dX10_laysBorder_91 : decode cX10_laysBorder 91 = .ok (.goto (-20), 3) := by decide +kernel
theorem dX10_laysBorder_94 : decode cX10_laysBorder 94 = .ok (.return_, 1) := by decide +kernel
theorem dX10_placed_0 : decode cX10_placed 0 = .ok (.aload_n 0, 1) := by decide +kernel
theorem dX10_placed_1 : decode cX10_placed 1 = .ok (.invokevirtual 105, 3) := by decide +kernel
theorem dX10_placed_4 : decode cX10_placed 4 = .ok (.istore_n 3, 1) := by decide +kernel
theorem dX10_placed_5 : decode cX10_placed 5 = .ok (.iload_n 3, 1) := by decide +kernel
theorem dX10_placed_6 : decode cX10_placed 6 = .ok (.ifCond .le 76, 3) := by decide +kernel
theorem dX10_placed_9 : decode cX10_placed 9 = .ok (.iload_n 1, 1) := by decide +kernel
theorem dX10_placed_10 : decode cX10_placed 10 = .ok (.iload_n 2, 1) := by decide +kernel
theorem dX10_placed_11 : decode cX10_placed 11 = .ok (.aload_n 0, 1) := by decide +kernel
theorem dX10_placed_12 : decode cX10_placed 12 = .ok (.getfield 7, 3) := by decide +kernel
theorem dX10_placed_15 : decode cX10_placed 15 = .ok (.iconst 4, 1) := by decide +kernel
theorem dX10_placed_16 : decode cX10_placed 16 = .ok (.iload_n 3, 1) := by decide +kernel
theorem dX10_placed_17 : decode cX10_placed 17 = .ok (.iadd, 1) := by decide +kernel
theorem dX10_placed_18 : decode cX10_placed 18 = .ok (.iconst 1, 1) := by decide +kernel
theorem dX10_placed_19 : decode cX10_placed 19 = .ok (.isub, 1) := by decide +kernel
theorem dX10_placed_20 : decode cX10_placed 20 = .ok (.iaload, 1) := by decide +kernel
theorem dX10_placed_21 : decode cX10_placed 21 = .ok (.aload_n 0, 1) := by decide +kernel
theorem dX10_placed_22 : decode cX10_placed 22 = .ok (.getfield 7, 3) := by decide +kernel
theorem dX10_placed_25 : decode cX10_placed 25 = .ok (.bipush 16, 2) := by decide +kernel
theorem dX10_placed_27 : decode cX10_placed 27 = .ok (.iload_n 3, 1) := by decide +kernel
theorem dX10_placed_28 : decode cX10_placed 28 = .ok (.iadd, 1) := by decide +kernel
theorem dX10_placed_29 : decode cX10_placed 29 = .ok (.iconst 1, 1) := by decide +kernel
theorem dX10_placed_30 : decode cX10_placed 30 = .ok (.isub, 1) := by decide +kernel
theorem dX10_placed_31 : decode cX10_placed 31 = .ok (.iaload, 1) := by decide +kernel
theorem dX10_placed_32 : decode cX10_placed 32 = .ok (.invokestatic 122, 3) := by decide +kernel
theorem dX10_placed_35 : decode cX10_placed 35 = .ok (.ifCond .eq 47, 3) := by decide +kernel
theorem dX10_placed_38 : decode cX10_placed 38 = .ok (.aload_n 0, 1) := by decide +kernel
theorem dX10_placed_39 : decode cX10_placed 39 = .ok (.getfield 7, 3) := by decide +kernel
theorem dX10_placed_42 : decode cX10_placed 42 = .ok (.iconst 4, 1) := by decide +kernel
theorem dX10_placed_43 : decode cX10_placed 43 = .ok (.iload_n 3, 1) := by decide +kernel
theorem dX10_placed_44 : decode cX10_placed 44 = .ok (.iadd, 1) := by decide +kernel
theorem dX10_placed_45 : decode cX10_placed 45 = .ok (.aload_n 0, 1) := by decide +kernel
theorem dX10_placed_46 : decode cX10_placed 46 = .ok (.getfield 7, 3) := by decide +kernel
theorem dX10_placed_49 : decode cX10_placed 49 = .ok (.iconst 4, 1) := by decide +kernel
theorem dX10_placed_50 : decode cX10_placed 50 = .ok (.iload_n 3, 1) := by decide +kernel
theorem dX10_placed_51 : decode cX10_placed 51 = .ok (.iadd, 1) := by decide +kernel
theorem dX10_placed_52 : decode cX10_placed 52 = .ok (.iconst 1, 1) := by decide +kernel
theorem dX10_placed_53 : decode cX10_placed 53 = .ok (.isub, 1) := by decide +kernel
theorem dX10_placed_54 : decode cX10_placed 54 = .ok (.iaload, 1) := by decide +kernel
theorem dX10_placed_55 : decode cX10_placed 55 = .ok (.iastore, 1) := by decide +kernel
theorem dX10_placed_56 : decode cX10_placed 56 = .ok (.aload_n 0, 1) := by decide +kernel
theorem dX10_placed_57 : decode cX10_placed 57 = .ok (.getfield 7, 3) := by decide +kernel
theorem dX10_placed_60 : decode cX10_placed 60 = .ok (.bipush 16, 2) := by decide +kernel
theorem dX10_placed_62 : decode cX10_placed 62 = .ok (.iload_n 3, 1) := by decide +kernel
theorem dX10_placed_63 : decode cX10_placed 63 = .ok (.iadd, 1) := by decide +kernel
theorem dX10_placed_64 : decode cX10_placed 64 = .ok (.aload_n 0, 1) := by decide +kernel
theorem dX10_placed_65 : decode cX10_placed 65 = .ok (.getfield 7, 3) := by decide +kernel
theorem dX10_placed_68 : decode cX10_placed 68 = .ok (.bipush 16, 2) := by decide +kernel
theorem dX10_placed_70 : decode cX10_placed 70 = .ok (.iload_n 3, 1) := by decide +kernel
theorem dX10_placed_71 : decode cX10_placed 71 = .ok (.iadd, 1) := by decide +kernel
theorem dX10_placed_72 : decode cX10_placed 72 = .ok (.iconst 1, 1) := by decide +kernel
theorem dX10_placed_73 : decode cX10_placed 73 = .ok (.isub, 1) := by decide +kernel
theorem dX10_placed_74 : decode cX10_placed 74 = .ok (.iaload, 1) := by decide +kernel
theorem dX10_placed_75 : decode cX10_placed 75 = .ok (.iastore, 1) := by decide +kernel
theorem dX10_placed_76 : decode cX10_placed 76 = .ok (.iinc 3 (-1), 3) := by decide +kernel
theorem dX10_placed_79 : decode cX10_placed 79 = .ok (.goto (-74), 3) := by decide +kernel
theorem dX10_placed_82 : decode cX10_placed 82 = .ok (.aload_n 0, 1) := by decide +kernel
theorem dX10_placed_83 : decode cX10_placed 83 = .ok (.getfield 7, 3) := by decide +kernel
theorem dX10_placed_86 : decode cX10_placed 86 = .ok (.iconst 4, 1) := by decide +kernel
theorem dX10_placed_87 : decode cX10_placed 87 = .ok (.iload_n 3, 1) := by decide +kernel
theorem dX10_placed_88 : decode cX10_placed 88 = .ok (.iadd, 1) := by decide +kernel
theorem dX10_placed_89 : decode cX10_placed 89 = .ok (.iload_n 1, 1) := by decide +kernel
theorem dX10_placed_90 : decode cX10_placed 90 = .ok (.iastore, 1) := by decide +kernel
theorem dX10_placed_91 : decode cX10_placed 91 = .ok (.aload_n 0, 1) := by decide +kernel
theorem dX10_placed_92 : decode cX10_placed 92 = .ok (.getfield 7, 3) := by decide +kernel
theorem dX10_placed_95 : decode cX10_placed 95 = .ok (.bipush 16, 2) := by decide +kernel
theorem dX10_placed_97 : decode cX10_placed 97 = .ok (.iload_n 3, 1) := by decide +kernel
theorem dX10_placed_98 : decode cX10_placed 98 = .ok (.iadd, 1) := by decide +kernel
theorem dX10_placed_99 : decode cX10_placed 99 = .ok (.iload_n 2, 1) := by decide +kernel
theorem dX10_placed_100 : decode cX10_placed 100 = .ok (.iastore, 1) := by decide +kernel
theorem dX10_placed_101 : decode cX10_placed 101 = .ok (.aload_n 0, 1) := by decide +kernel
theorem dX10_placed_102 : decode cX10_placed 102 = .ok (.getfield 7, 3) := by decide +kernel
theorem dX10_placed_105 : decode cX10_placed 105 = .ok (.iconst 1, 1) := by decide +kernel
theorem dX10_placed_106 : decode cX10_placed 106 = .ok (.dup2, 1) := by decide +kernel
theorem dX10_placed_107 : decode cX10_placed 107 = .ok (.iaload, 1) := by decide +kernel
theorem dX10_placed_108 : decode cX10_placed 108 = .ok (.iconst 1, 1) := by decide +kernel
theorem dX10_placed_109 : decode cX10_placed 109 = .ok (.iadd, 1) := by decide +kernel
theorem dX10_placed_110 : decode cX10_placed 110 = .ok (.iastore, 1) := by decide +kernel
theorem dX10_placed_111 : decode cX10_placed 111 = .ok (.iload_n 3, 1) := by decide +kernel
theorem dX10_placed_112 : decode cX10_placed 112 = .ok (.ireturn, 1) := by decide +kernel
theorem dX10_ruleAt_0 : decode cX10_ruleAt 0 = .ok (.bipush 56, 2) := by decide +kernel
theorem dX10_ruleAt_2 : decode cX10_ruleAt 2 = .ok (.bipush 12, 2) := by decide +kernel
theorem dX10_ruleAt_4 : decode cX10_ruleAt 4 = .ok (.iload_n 0, 1) := by decide +kernel
theorem dX10_ruleAt_5 : decode cX10_ruleAt 5 = .ok (.imul, 1) := by decide +kernel
theorem dX10_ruleAt_6 : decode cX10_ruleAt 6 = .ok (.iadd, 1) := by decide +kernel
theorem dX10_ruleAt_7 : decode cX10_ruleAt 7 = .ok (.iload_n 1, 1) := by decide +kernel
theorem dX10_ruleAt_8 : decode cX10_ruleAt 8 = .ok (.iadd, 1) := by decide +kernel
theorem dX10_ruleAt_9 : decode cX10_ruleAt 9 = .ok (.ireturn, 1) := by decide +kernel
theorem dX10_ruleBefore_0 : decode cX10_ruleBefore 0 = .ok (.iconst (-1), 1) := by decide +kernel
theorem dX10_ruleBefore_1 : decode cX10_ruleBefore 1 = .ok (.istore_n 3, 1) := by decide +kernel
theorem dX10_ruleBefore_2 : decode cX10_ruleBefore 2 = .ok (.iconst 0, 1) := by decide +kernel
theorem dX10_ruleBefore_3 : decode cX10_ruleBefore 3 = .ok (.istore 4, 2) := by decide +kernel
theorem dX10_ruleBefore_5 : decode cX10_ruleBefore 5 = .ok (.iload 4, 2) := by decide +kernel
theorem dX10_ruleBefore_7 : decode cX10_ruleBefore 7 = .ok (.aload_n 0, 1) := by decide +kernel
theorem dX10_ruleBefore_8 : decode cX10_ruleBefore 8 = .ok (.getfield 16, 3) := by decide +kernel
theorem dX10_ruleBefore_11 : decode cX10_ruleBefore 11 = .ok (.iconst 2, 1) := by decide +kernel
theorem dX10_ruleBefore_12 : decode cX10_ruleBefore 12 = .ok (.iaload, 1) := by decide +kernel
theorem dX10_ruleBefore_13 : decode cX10_ruleBefore 13 = .ok (.if_icmp .ge 60, 3) := by decide +kernel
theorem dX10_ruleBefore_16 : decode cX10_ruleBefore 16 = .ok (.aload_n 0, 1) := by decide +kernel
theorem dX10_ruleBefore_17 : decode cX10_ruleBefore 17 = .ok (.getfield 16, 3) := by decide +kernel
theorem dX10_ruleBefore_20 : decode cX10_ruleBefore 20 = .ok (.bipush 28, 2) := by decide +kernel
theorem dX10_ruleBefore_22 : decode cX10_ruleBefore 22 = .ok (.iload 4, 2) := by decide +kernel
theorem dX10_ruleBefore_24 : decode cX10_ruleBefore 24 = .ok (.iadd, 1) := by decide +kernel
theorem dX10_ruleBefore_25 : decode cX10_ruleBefore 25 = .ok (.iaload, 1) := by decide +kernel
theorem dX10_ruleBefore_26 : decode cX10_ruleBefore 26 = .ok (.aload_n 0, 1) := by decide +kernel
theorem dX10_ruleBefore_27 : decode cX10_ruleBefore 27 = .ok (.getfield 7, 3) := by decide +kernel
theorem dX10_ruleBefore_30 : decode cX10_ruleBefore 30 = .ok (.bipush 28, 2) := by decide +kernel
theorem dX10_ruleBefore_32 : decode cX10_ruleBefore 32 = .ok (.iload_n 1, 1) := by decide +kernel
theorem dX10_ruleBefore_33 : decode cX10_ruleBefore 33 = .ok (.iadd, 1) := by decide +kernel
theorem dX10_ruleBefore_34 : decode cX10_ruleBefore 34 = .ok (.iaload, 1) := by decide +kernel
theorem dX10_ruleBefore_35 : decode cX10_ruleBefore 35 = .ok (.if_icmp .ne 30, 3) := by decide +kernel
theorem dX10_ruleBefore_38 : decode cX10_ruleBefore 38 = .ok (.aload_n 0, 1) := by decide +kernel
theorem dX10_ruleBefore_39 : decode cX10_ruleBefore 39 = .ok (.getfield 16, 3) := by decide +kernel
theorem dX10_ruleBefore_42 : decode cX10_ruleBefore 42 = .ok (.bipush 42, 2) := by decide +kernel
theorem dX10_ruleBefore_44 : decode cX10_ruleBefore 44 = .ok (.iload 4, 2) := by decide +kernel
theorem dX10_ruleBefore_46 : decode cX10_ruleBefore 46 = .ok (.iadd, 1) := by decide +kernel
theorem dX10_ruleBefore_47 : decode cX10_ruleBefore 47 = .ok (.iaload, 1) := by decide +kernel
theorem dX10_ruleBefore_48 : decode cX10_ruleBefore 48 = .ok (.aload_n 0, 1) := by decide +kernel
theorem dX10_ruleBefore_49 : decode cX10_ruleBefore 49 = .ok (.getfield 7, 3) := by decide +kernel
theorem dX10_ruleBefore_52 : decode cX10_ruleBefore 52 = .ok (.bipush 42, 2) := by decide +kernel
theorem dX10_ruleBefore_54 : decode cX10_ruleBefore 54 = .ok (.iload_n 1, 1) := by decide +kernel
theorem dX10_ruleBefore_55 : decode cX10_ruleBefore 55 = .ok (.iadd, 1) := by decide +kernel
theorem dX10_ruleBefore_56 : decode cX10_ruleBefore 56 = .ok (.iaload, 1) := by decide +kernel
theorem dX10_ruleBefore_57 : decode cX10_ruleBefore 57 = .ok (.if_icmp .ne 8, 3) := by decide +kernel
theorem dX10_ruleBefore_60 : decode cX10_ruleBefore 60 = .ok (.iload 4, 2) := by decide +kernel
theorem dX10_ruleBefore_62 : decode cX10_ruleBefore 62 = .ok (.goto 4, 3) := by decide +kernel
theorem dX10_ruleBefore_65 : decode cX10_ruleBefore 65 = .ok (.iload_n 3, 1) := by decide +kernel
theorem dX10_ruleBefore_66 : decode cX10_ruleBefore 66 = .ok (.istore_n 3, 1) := by decide +kernel
theorem dX10_ruleBefore_67 : decode cX10_ruleBefore 67 = .ok (.iinc 4 1, 3) := by decide +kernel
theorem dX10_ruleBefore_70 : decode cX10_ruleBefore 70 = .ok (.goto (-65), 3) := by decide +kernel
theorem dX10_ruleBefore_73 : decode cX10_ruleBefore 73 = .ok (.iconst (-1), 1) := by decide +kernel
theorem dX10_ruleBefore_74 : decode cX10_ruleBefore 74 = .ok (.istore 4, 2) := by decide +kernel
theorem dX10_ruleBefore_76 : decode cX10_ruleBefore 76 = .ok (.iconst 0, 1) := by decide +kernel
theorem dX10_ruleBefore_77 : decode cX10_ruleBefore 77 = .ok (.istore 5, 2) := by decide +kernel
theorem dX10_ruleBefore_79 : decode cX10_ruleBefore 79 = .ok (.iload 5, 2) := by decide +kernel
theorem dX10_ruleBefore_81 : decode cX10_ruleBefore 81 = .ok (.aload_n 0, 1) := by decide +kernel
theorem dX10_ruleBefore_82 : decode cX10_ruleBefore 82 = .ok (.getfield 16, 3) := by decide +kernel
theorem dX10_ruleBefore_85 : decode cX10_ruleBefore 85 = .ok (.iconst 1, 1) := by decide +kernel
theorem dX10_ruleBefore_86 : decode cX10_ruleBefore 86 = .ok (.iaload, 1) := by decide +kernel
theorem dX10_ruleBefore_87 : decode cX10_ruleBefore 87 = .ok (.if_icmp .ge 60, 3) := by decide +kernel
theorem dX10_ruleBefore_90 : decode cX10_ruleBefore 90 = .ok (.aload_n 0, 1) := by decide +kernel
theorem dX10_ruleBefore_91 : decode cX10_ruleBefore 91 = .ok (.getfield 16, 3) := by decide +kernel
theorem dX10_ruleBefore_94 : decode cX10_ruleBefore 94 = .ok (.iconst 4, 1) := by decide +kernel
theorem dX10_ruleBefore_95 : decode cX10_ruleBefore 95 = .ok (.iload 5, 2) := by decide +kernel
theorem dX10_ruleBefore_97 : decode cX10_ruleBefore 97 = .ok (.iadd, 1) := by decide +kernel
theorem dX10_ruleBefore_98 : decode cX10_ruleBefore 98 = .ok (.iaload, 1) := by decide +kernel
theorem dX10_ruleBefore_99 : decode cX10_ruleBefore 99 = .ok (.aload_n 0, 1) := by decide +kernel
theorem dX10_ruleBefore_100 : decode cX10_ruleBefore 100 = .ok (.getfield 7, 3) := by decide +kernel
theorem dX10_ruleBefore_103 : decode cX10_ruleBefore 103 = .ok (.iconst 4, 1) := by decide +kernel
theorem dX10_ruleBefore_104 : decode cX10_ruleBefore 104 = .ok (.iload_n 2, 1) := by decide +kernel
theorem dX10_ruleBefore_105 : decode cX10_ruleBefore 105 = .ok (.iadd, 1) := by decide +kernel
theorem dX10_ruleBefore_106 : decode cX10_ruleBefore 106 = .ok (.iaload, 1) := by decide +kernel
theorem dX10_ruleBefore_107 : decode cX10_ruleBefore 107 = .ok (.if_icmp .ne 30, 3) := by decide +kernel
theorem dX10_ruleBefore_110 : decode cX10_ruleBefore 110 = .ok (.aload_n 0, 1) := by decide +kernel
theorem dX10_ruleBefore_111 : decode cX10_ruleBefore 111 = .ok (.getfield 16, 3) := by decide +kernel
theorem dX10_ruleBefore_114 : decode cX10_ruleBefore 114 = .ok (.bipush 16, 2) := by decide +kernel
theorem dX10_ruleBefore_116 : decode cX10_ruleBefore 116 = .ok (.iload 5, 2) := by decide +kernel
theorem dX10_ruleBefore_118 : decode cX10_ruleBefore 118 = .ok (.iadd, 1) := by decide +kernel
theorem dX10_ruleBefore_119 : decode cX10_ruleBefore 119 = .ok (.iaload, 1) := by decide +kernel
theorem dX10_ruleBefore_120 : decode cX10_ruleBefore 120 = .ok (.aload_n 0, 1) := by decide +kernel
theorem dX10_ruleBefore_121 : decode cX10_ruleBefore 121 = .ok (.getfield 7, 3) := by decide +kernel
theorem dX10_ruleBefore_124 : decode cX10_ruleBefore 124 = .ok (.bipush 16, 2) := by decide +kernel
theorem dX10_ruleBefore_126 : decode cX10_ruleBefore 126 = .ok (.iload_n 2, 1) := by decide +kernel
theorem dX10_ruleBefore_127 : decode cX10_ruleBefore 127 = .ok (.iadd, 1) := by decide +kernel
theorem dX10_ruleBefore_128 : decode cX10_ruleBefore 128 = .ok (.iaload, 1) := by decide +kernel
theorem dX10_ruleBefore_129 : decode cX10_ruleBefore 129 = .ok (.if_icmp .ne 8, 3) := by decide +kernel
theorem dX10_ruleBefore_132 : decode cX10_ruleBefore 132 = .ok (.iload 5, 2) := by decide +kernel
theorem dX10_ruleBefore_134 : decode cX10_ruleBefore 134 = .ok (.goto 5, 3) := by decide +kernel
theorem dX10_ruleBefore_137 : decode cX10_ruleBefore 137 = .ok (.iload 4, 2) := by decide +kernel
theorem dX10_ruleBefore_139 : decode cX10_ruleBefore 139 = .ok (.istore 4, 2) := by decide +kernel
theorem dX10_ruleBefore_141 : decode cX10_ruleBefore 141 = .ok (.iinc 5 1, 3) := by decide +kernel
theorem dX10_ruleBefore_144 : decode cX10_ruleBefore 144 = .ok (.goto (-65), 3) := by decide +kernel
theorem dX10_ruleBefore_147 : decode cX10_ruleBefore 147 = .ok (.iload_n 3, 1) := by decide +kernel
theorem dX10_ruleBefore_148 : decode cX10_ruleBefore 148 = .ok (.iconst (-1), 1) := by decide +kernel
theorem dX10_ruleBefore_149 : decode cX10_ruleBefore 149 = .ok (.if_icmp .eq 9, 3) := by decide +kernel
theorem dX10_ruleBefore_152 : decode cX10_ruleBefore 152 = .ok (.iload 4, 2) := by decide +kernel
theorem dX10_ruleBefore_154 : decode cX10_ruleBefore 154 = .ok (.iconst (-1), 1) := by decide +kernel
theorem dX10_ruleBefore_155 : decode cX10_ruleBefore 155 = .ok (.if_icmp .ne 7, 3) := by decide +kernel
theorem dX10_ruleBefore_158 : decode cX10_ruleBefore 158 = .ok (.iconst 0, 1) := by decide +kernel
theorem dX10_ruleBefore_159 : decode cX10_ruleBefore 159 = .ok (.goto 14, 3) := by decide +kernel
theorem dX10_ruleBefore_162 : decode cX10_ruleBefore 162 = .ok (.aload_n 0, 1) := by decide +kernel
theorem dX10_ruleBefore_163 : decode cX10_ruleBefore 163 = .ok (.getfield 16, 3) := by decide +kernel
theorem dX10_ruleBefore_166 : decode cX10_ruleBefore 166 = .ok (.iload_n 3, 1) := by decide +kernel
theorem dX10_ruleBefore_167 : decode cX10_ruleBefore 167 = .ok (.iload 4, 2) := by decide +kernel
theorem dX10_ruleBefore_169 : decode cX10_ruleBefore 169 = .ok (.invokestatic 130, 3) := by decide +kernel
theorem dX10_ruleBefore_172 : decode cX10_ruleBefore 172 = .ok (.iaload, 1) := by decide +kernel
theorem dX10_ruleBefore_173 : decode cX10_ruleBefore 173 = .ok (.ireturn, 1) := by decide +kernel
theorem dX10_laysAgain_0 : decode cX10_laysAgain 0 = .ok (.aload_n 0, 1) := by decide +kernel
theorem dX10_laysAgain_1 : decode cX10_laysAgain 1 = .ok (.invokevirtual 94, 3) := by decide +kernel
theorem dX10_laysAgain_4 : decode cX10_laysAgain 4 = .ok (.iconst 0, 1) := by decide +kernel
theorem dX10_laysAgain_5 : decode cX10_laysAgain 5 = .ok (.istore_n 1, 1) := by decide +kernel
theorem dX10_laysAgain_6 : decode cX10_laysAgain 6 = .ok (.iload_n 1, 1) := by decide +kernel
theorem dX10_laysAgain_7 : decode cX10_laysAgain 7 = .ok (.aload_n 0, 1) := by decide +kernel
theorem dX10_laysAgain_8 : decode cX10_laysAgain 8 = .ok (.getfield 7, 3) := by decide +kernel
theorem dX10_laysAgain_11 : decode cX10_laysAgain 11 = .ok (.iconst 2, 1) := by decide +kernel
theorem dX10_laysAgain_12 : decode cX10_laysAgain 12 = .ok (.iaload, 1) := by decide +kernel
theorem dX10_laysAgain_13 : decode cX10_laysAgain 13 = .ok (.if_icmp .ge 41, 3) := by decide +kernel
theorem dX10_laysAgain_16 : decode cX10_laysAgain 16 = .ok (.iconst 0, 1) := by decide +kernel
theorem dX10_laysAgain_17 : decode cX10_laysAgain 17 = .ok (.istore_n 2, 1) := by decide +kernel
theorem dX10_laysAgain_18 : decode cX10_laysAgain 18 = .ok (.iload_n 2, 1) := by decide +kernel
theorem dX10_laysAgain_19 : decode cX10_laysAgain 19 = .ok (.aload_n 0, 1) := by decide +kernel
theorem dX10_laysAgain_20 : decode cX10_laysAgain 20 = .ok (.invokevirtual 105, 3) := by decide +kernel
theorem dX10_laysAgain_23 : decode cX10_laysAgain 23 = .ok (.if_icmp .ge 25, 3) := by decide +kernel
theorem dX10_laysAgain_26 : decode cX10_laysAgain 26 = .ok (.aload_n 0, 1) := by decide +kernel
theorem dX10_laysAgain_27 : decode cX10_laysAgain 27 = .ok (.getfield 7, 3) := by decide +kernel
theorem dX10_laysAgain_30 : decode cX10_laysAgain 30 = .ok (.iload_n 1, 1) := by decide +kernel
theorem dX10_laysAgain_31 : decode cX10_laysAgain 31 = .ok (.iload_n 2, 1) := by decide +kernel
theorem dX10_laysAgain_32 : decode cX10_laysAgain 32 = .ok (.invokestatic 130, 3) := by decide +kernel
theorem dX10_laysAgain_35 : decode cX10_laysAgain 35 = .ok (.aload_n 0, 1) := by decide +kernel
theorem dX10_laysAgain_36 : decode cX10_laysAgain 36 = .ok (.iload_n 1, 1) := by decide +kernel
theorem dX10_laysAgain_37 : decode cX10_laysAgain 37 = .ok (.iload_n 2, 1) := by decide +kernel
theorem dX10_laysAgain_38 : decode cX10_laysAgain 38 = .ok (.invokevirtual 133, 3) := by decide +kernel
theorem dX10_laysAgain_41 : decode cX10_laysAgain 41 = .ok (.iastore, 1) := by decide +kernel
theorem dX10_laysAgain_42 : decode cX10_laysAgain 42 = .ok (.iinc 2 1, 3) := by decide +kernel
theorem dX10_laysAgain_45 : decode cX10_laysAgain 45 = .ok (.goto (-27), 3) := by decide +kernel
theorem dX10_laysAgain_48 : decode cX10_laysAgain 48 = .ok (.iinc 1 1, 3) := by decide +kernel
theorem dX10_laysAgain_51 : decode cX10_laysAgain 51 = .ok (.goto (-45), 3) := by decide +kernel
theorem dX10_laysAgain_54 : decode cX10_laysAgain 54 = .ok (.return_, 1) := by decide +kernel
theorem dX10_joins_0 : decode cX10_joins 0 = .ok (.aload_n 0, 1) := by decide +kernel
theorem dX10_joins_1 : decode cX10_joins 1 = .ok (.getfield 7, 3) := by decide +kernel
theorem dX10_joins_4 : decode cX10_joins 4 = .ok (.iconst 0, 1) := by decide +kernel
theorem dX10_joins_5 : decode cX10_joins 5 = .ok (.aload_n 0, 1) := by decide +kernel
theorem dX10_joins_6 : decode cX10_joins 6 = .ok (.getfield 16, 3) := by decide +kernel
theorem dX10_joins_9 : decode cX10_joins 9 = .ok (.iconst 0, 1) := by decide +kernel
theorem dX10_joins_10 : decode cX10_joins 10 = .ok (.invokestatic 136, 3) := by decide +kernel
theorem dX10_joins_13 : decode cX10_joins 13 = .ok (.aload_n 0, 1) := by decide +kernel
theorem dX10_joins_14 : decode cX10_joins 14 = .ok (.iload_n 1, 1) := by decide +kernel
theorem dX10_joins_15 : decode cX10_joins 15 = .ok (.iload_n 2, 1) := by decide +kernel
theorem dX10_joins_16 : decode cX10_joins 16 = .ok (.invokevirtual 140, 3) := by decide +kernel
theorem dX10_joins_19 : decode cX10_joins 19 = .ok (.istore_n 3, 1) := by decide +kernel
theorem dX10_joins_20 : decode cX10_joins 20 = .ok (.aload_n 0, 1) := by decide +kernel
theorem dX10_joins_21 : decode cX10_joins 21 = .ok (.invokevirtual 143, 3) := by decide +kernel
theorem dX10_joins_24 : decode cX10_joins 24 = .ok (.iload_n 3, 1) := by decide +kernel
theorem dX10_joins_25 : decode cX10_joins 25 = .ok (.ireturn, 1) := by decide +kernel
theorem dX10_leaves_0 : decode cX10_leaves 0 = .ok (.aload_n 0, 1) := by decide +kernel
theorem dX10_leaves_1 : decode cX10_leaves 1 = .ok (.getfield 7, 3) := by decide +kernel
theorem dX10_leaves_4 : decode cX10_leaves 4 = .ok (.iconst 0, 1) := by decide +kernel
theorem dX10_leaves_5 : decode cX10_leaves 5 = .ok (.aload_n 0, 1) := by decide +kernel
theorem dX10_leaves_6 : decode cX10_leaves 6 = .ok (.getfield 16, 3) := by decide +kernel
theorem dX10_leaves_9 : decode cX10_leaves 9 = .ok (.iconst 0, 1) := by decide +kernel
theorem dX10_leaves_10 : decode cX10_leaves 10 = .ok (.invokestatic 136, 3) := by decide +kernel
theorem dX10_leaves_13 : decode cX10_leaves 13 = .ok (.aload_n 0, 1) := by decide +kernel
theorem dX10_leaves_14 : decode cX10_leaves 14 = .ok (.iload_n 1, 1) := by decide +kernel
theorem dX10_leaves_15 : decode cX10_leaves 15 = .ok (.iload_n 2, 1) := by decide +kernel
theorem dX10_leaves_16 : decode cX10_leaves 16 = .ok (.invokevirtual 108, 3) := by decide +kernel
theorem dX10_leaves_19 : decode cX10_leaves 19 = .ok (.istore_n 3, 1) := by decide +kernel
theorem dX10_leaves_20 : decode cX10_leaves 20 = .ok (.iload_n 3, 1) := by decide +kernel
theorem dX10_leaves_21 : decode cX10_leaves 21 = .ok (.istore 4, 2) := by decide +kernel
theorem dX10_leaves_23 : decode cX10_leaves 23 = .ok (.iload 4, 2) := by decide +kernel
theorem dX10_leaves_25 : decode cX10_leaves 25 = .ok (.iconst 1, 1) := by decide +kernel
theorem dX10_leaves_26 : decode cX10_leaves 26 = .ok (.iadd, 1) := by decide +kernel
theorem dX10_leaves_27 : decode cX10_leaves 27 = .ok (.aload_n 0, 1) := by decide +kernel
theorem dX10_leaves_28 : decode cX10_leaves 28 = .ok (.invokevirtual 105, 3) := by decide +kernel
theorem dX10_leaves_31 : decode cX10_leaves 31 = .ok (.if_icmp .ge 51, 3) := by decide +kernel
theorem dX10_leaves_34 : decode cX10_leaves 34 = .ok (.aload_n 0, 1) := by decide +kernel
theorem dX10_leaves_35 : decode cX10_leaves 35 = .ok (.getfield 7, 3) := by decide +kernel
theorem dX10_leaves_38 : decode cX10_leaves 38 = .ok (.iconst 4, 1) := by decide +kernel
theorem dX10_leaves_39 : decode cX10_leaves 39 = .ok (.iload 4, 2) := by decide +kernel
theorem dX10_leaves_41 : decode cX10_leaves 41 = .ok (.iadd, 1) := by decide +kernel
theorem dX10_leaves_42 : decode cX10_leaves 42 = .ok (.aload_n 0, 1) := by decide +kernel
theorem dX10_leaves_43 : decode cX10_leaves 43 = .ok (.getfield 7, 3) := by decide +kernel
theorem dX10_leaves_46 : decode cX10_leaves 46 = .ok (.iconst 4, 1) := by decide +kernel
theorem dX10_leaves_47 : decode cX10_leaves 47 = .ok (.iload 4, 2) := by decide +kernel
theorem dX10_leaves_49 : decode cX10_leaves 49 = .ok (.iadd, 1) := by decide +kernel
theorem dX10_leaves_50 : decode cX10_leaves 50 = .ok (.iconst 1, 1) := by decide +kernel
theorem dX10_leaves_51 : decode cX10_leaves 51 = .ok (.iadd, 1) := by decide +kernel
theorem dX10_leaves_52 : decode cX10_leaves 52 = .ok (.iaload, 1) := by decide +kernel
theorem dX10_leaves_53 : decode cX10_leaves 53 = .ok (.iastore, 1) := by decide +kernel
theorem dX10_leaves_54 : decode cX10_leaves 54 = .ok (.aload_n 0, 1) := by decide +kernel
theorem dX10_leaves_55 : decode cX10_leaves 55 = .ok (.getfield 7, 3) := by decide +kernel
theorem dX10_leaves_58 : decode cX10_leaves 58 = .ok (.bipush 16, 2) := by decide +kernel
theorem dX10_leaves_60 : decode cX10_leaves 60 = .ok (.iload 4, 2) := by decide +kernel
theorem dX10_leaves_62 : decode cX10_leaves 62 = .ok (.iadd, 1) := by decide +kernel
theorem dX10_leaves_63 : decode cX10_leaves 63 = .ok (.aload_n 0, 1) := by decide +kernel
theorem dX10_leaves_64 : decode cX10_leaves 64 = .ok (.getfield 7, 3) := by decide +kernel
theorem dX10_leaves_67 : decode cX10_leaves 67 = .ok (.bipush 16, 2) := by decide +kernel
theorem dX10_leaves_69 : decode cX10_leaves 69 = .ok (.iload 4, 2) := by decide +kernel
theorem dX10_leaves_71 : decode cX10_leaves 71 = .ok (.iadd, 1) := by decide +kernel
theorem dX10_leaves_72 : decode cX10_leaves 72 = .ok (.iconst 1, 1) := by decide +kernel
theorem dX10_leaves_73 : decode cX10_leaves 73 = .ok (.iadd, 1) := by decide +kernel
theorem dX10_leaves_74 : decode cX10_leaves 74 = .ok (.iaload, 1) := by decide +kernel
theorem dX10_leaves_75 : decode cX10_leaves 75 = .ok (.iastore, 1) := by decide +kernel
theorem dX10_leaves_76 : decode cX10_leaves 76 = .ok (.iinc 4 1, 3) := by decide +kernel
theorem dX10_leaves_79 : decode cX10_leaves 79 = .ok (.goto (-56), 3) := by decide +kernel
theorem dX10_leaves_82 : decode cX10_leaves 82 = .ok (.aload_n 0, 1) := by decide +kernel
theorem dX10_leaves_83 : decode cX10_leaves 83 = .ok (.getfield 7, 3) := by decide +kernel
theorem dX10_leaves_86 : decode cX10_leaves 86 = .ok (.iconst 1, 1) := by decide +kernel
theorem dX10_leaves_87 : decode cX10_leaves 87 = .ok (.dup2, 1) := by decide +kernel
theorem dX10_leaves_88 : decode cX10_leaves 88 = .ok (.iaload, 1) := by decide +kernel
theorem dX10_leaves_89 : decode cX10_leaves 89 = .ok (.iconst 1, 1) := by decide +kernel
theorem dX10_leaves_90 : decode cX10_leaves 90 = .ok (.isub, 1) := by decide +kernel
theorem dX10_leaves_91 : decode cX10_leaves 91 = .ok (.iastore, 1) := by decide +kernel
theorem dX10_leaves_92 : decode cX10_leaves 92 = .ok (.aload_n 0, 1) := by decide +kernel
theorem dX10_leaves_93 : decode cX10_leaves 93 = .ok (.invokevirtual 143, 3) := by decide +kernel
theorem dX10_leaves_96 : decode cX10_leaves 96 = .ok (.iload_n 3, 1) := by decide +kernel
theorem dX10_leaves_97 : decode cX10_leaves 97 = .ok (.ireturn, 1) := by decide +kernel
theorem dX10_appendText_0 : decode cX10_appendText 0 = .ok (.aload_n 0, 1) := by decide +kernel
theorem dX10_appendText_1 : decode cX10_appendText 1 = .ok (.aload_n 0, 1) := by decide +kernel
theorem dX10_appendText_2 : decode cX10_appendText 2 = .ok (.getfield 146, 3) := by decide +kernel
theorem dX10_appendText_5 : decode cX10_appendText 5 = .ok (.iconst 4, 1) := by decide +kernel
theorem dX10_appendText_6 : decode cX10_appendText 6 = .ok (.iadd, 1) := by decide +kernel
theorem dX10_appendText_7 : decode cX10_appendText 7 = .ok (.sipush 900, 3) := by decide +kernel
theorem dX10_appendText_10 : decode cX10_appendText 10 = .ok (.if_icmp .gt 7, 3) := by decide +kernel
theorem dX10_appendText_13 : decode cX10_appendText 13 = .ok (.iconst 0, 1) := by decide +kernel
theorem dX10_appendText_14 : decode cX10_appendText 14 = .ok (.goto 4, 3) := by decide +kernel
theorem dX10_appendText_17 : decode cX10_appendText 17 = .ok (.iconst 1, 1) := by decide +kernel
theorem dX10_appendText_18 : decode cX10_appendText 18 = .ok (.putfield 91, 3) := by decide +kernel
theorem dX10_appendText_21 : decode cX10_appendText 21 = .ok (.aload_n 0, 1) := by decide +kernel
theorem dX10_appendText_22 : decode cX10_appendText 22 = .ok (.getfield 91, 3) := by decide +kernel
theorem dX10_appendText_25 : decode cX10_appendText 25 = .ok (.ifCond .le 5, 3) := by decide +kernel
theorem dX10_appendText_28 : decode cX10_appendText 28 = .ok (.iconst 0, 1) := by decide +kernel
theorem dX10_appendText_29 : decode cX10_appendText 29 = .ok (.ireturn, 1) := by decide +kernel
theorem dX10_appendText_30 : decode cX10_appendText 30 = .ok (.bipush 24, 2) := by decide +kernel
theorem dX10_appendText_32 : decode cX10_appendText 32 = .ok (.istore_n 2, 1) := by decide +kernel
theorem dX10_appendText_33 : decode cX10_appendText 33 = .ok (.iload_n 2, 1) := by decide +kernel
theorem dX10_appendText_34 : decode cX10_appendText 34 = .ok (.ifCond .lt 32, 3) := by decide +kernel
theorem dX10_appendText_37 : decode cX10_appendText 37 = .ok (.aload_n 0, 1) := by decide +kernel
theorem dX10_appendText_38 : decode cX10_appendText 38 = .ok (.getfield 32, 3) := by decide +kernel
theorem dX10_appendText_41 : decode cX10_appendText 41 = .ok (.aload_n 0, 1) := by decide +kernel
theorem dX10_appendText_42 : decode cX10_appendText 42 = .ok (.getfield 146, 3) := by decide +kernel
theorem dX10_appendText_45 : decode cX10_appendText 45 = .ok (.iload_n 1, 1) := by decide +kernel
theorem dX10_appendText_46 : decode cX10_appendText 46 = .ok (.iload_n 2, 1) := by decide +kernel
theorem dX10_appendText_47 : decode cX10_appendText 47 = .ok (.ishr, 1) := by decide +kernel
theorem dX10_appendText_48 : decode cX10_appendText 48 = .ok (.i2b, 1) := by decide +kernel
theorem dX10_appendText_49 : decode cX10_appendText 49 = .ok (.bastore, 1) := by decide +kernel
theorem dX10_appendText_50 : decode cX10_appendText 50 = .ok (.aload_n 0, 1) := by decide +kernel
theorem dX10_appendText_51 : decode cX10_appendText 51 = .ok (.dup, 1) := by decide +kernel
theorem dX10_appendText_52 : decode cX10_appendText 52 = .ok (.getfield 146, 3) := by decide +kernel
theorem dX10_appendText_55 : decode cX10_appendText 55 = .ok (.iconst 1, 1) := by decide +kernel
theorem dX10_appendText_56 : decode cX10_appendText 56 = .ok (.iadd, 1) := by decide +kernel
theorem dX10_appendText_57 : decode cX10_appendText 57 = .ok (.putfield 146, 3) := by decide +kernel
theorem dX10_appendText_60 : decode cX10_appendText 60 = .ok (.iinc 2 (-8), 3) := by decide +kernel
theorem dX10_appendText_63 : decode cX10_appendText 63 = .ok (.goto (-30), 3) := by decide +kernel
theorem dX10_appendText_66 : decode cX10_appendText 66 = .ok (.aload_n 0, 1) := by decide +kernel
theorem dX10_appendText_67 : decode cX10_appendText 67 = .ok (.getfield 146, 3) := by decide +kernel
theorem dX10_appendText_70 : decode cX10_appendText 70 = .ok (.ireturn, 1) := by decide +kernel
theorem dX10_truncateText_0 : decode cX10_truncateText 0 = .ok (.aload_n 0, 1) := by decide +kernel
theorem dX10_truncateText_1 : decode cX10_truncateText 1 = .ok (.iload_n 1, 1) := by decide +kernel
theorem dX10_truncateText_2 : decode cX10_truncateText 2 = .ok (.iconst 0, 1) := by decide +kernel
theorem dX10_truncateText_3 : decode cX10_truncateText 3 = .ok (.aload_n 0, 1) := by decide +kernel
theorem dX10_truncateText_4 : decode cX10_truncateText 4 = .ok (.getfield 146, 3) := by decide +kernel
theorem dX10_truncateText_7 : decode cX10_truncateText 7 = .ok (.invokestatic 101, 3) := by decide +kernel
theorem dX10_truncateText_10 : decode cX10_truncateText 10 = .ok (.ifCond .eq 7, 3) := by decide +kernel
theorem dX10_truncateText_13 : decode cX10_truncateText 13 = .ok (.iconst 0, 1) := by decide +kernel
theorem dX10_truncateText_14 : decode cX10_truncateText 14 = .ok (.goto 4, 3) := by decide +kernel
theorem dX10_truncateText_17 : decode cX10_truncateText 17 = .ok (.iconst 1, 1) := by decide +kernel
theorem dX10_truncateText_18 : decode cX10_truncateText 18 = .ok (.putfield 91, 3) := by decide +kernel
theorem dX10_truncateText_21 : decode cX10_truncateText 21 = .ok (.aload_n 0, 1) := by decide +kernel
theorem dX10_truncateText_22 : decode cX10_truncateText 22 = .ok (.getfield 91, 3) := by decide +kernel
theorem dX10_truncateText_25 : decode cX10_truncateText 25 = .ok (.ifCond .le 5, 3) := by decide +kernel
theorem dX10_truncateText_28 : decode cX10_truncateText 28 = .ok (.iconst 0, 1) := by decide +kernel
theorem dX10_truncateText_29 : decode cX10_truncateText 29 = .ok (.ireturn, 1) := by decide +kernel
theorem dX10_truncateText_30 : decode cX10_truncateText 30 = .ok (.aload_n 0, 1) := by decide +kernel
theorem dX10_truncateText_31 : decode cX10_truncateText 31 = .ok (.iload_n 1, 1) := by decide +kernel
theorem dX10_truncateText_32 : decode cX10_truncateText 32 = .ok (.putfield 146, 3) := by decide +kernel
theorem dX10_truncateText_35 : decode cX10_truncateText 35 = .ok (.aload_n 0, 1) := by decide +kernel
theorem dX10_truncateText_36 : decode cX10_truncateText 36 = .ok (.getfield 146, 3) := by decide +kernel
theorem dX10_truncateText_39 : decode cX10_truncateText 39 = .ok (.ireturn, 1) := by decide +kernel
theorem dX10_see_0 : decode cX10_see 0 = .ok (.aload_n 0, 1) := by decide +kernel
theorem dX10_see_1 : decode cX10_see 1 = .ok (.getfield 149, 3) := by decide +kernel
theorem dX10_see_4 : decode cX10_see 4 = .ok (.aload_n 0, 1) := by decide +kernel
theorem dX10_see_5 : decode cX10_see 5 = .ok (.getfield 146, 3) := by decide +kernel
theorem dX10_see_8 : decode cX10_see 8 = .ok (.if_icmp .ge 19, 3) := by decide +kernel
theorem dX10_see_11 : decode cX10_see 11 = .ok (.aload_n 0, 1) := by decide +kernel
theorem dX10_see_12 : decode cX10_see 12 = .ok (.getfield 32, 3) := by decide +kernel
theorem dX10_see_15 : decode cX10_see 15 = .ok (.aload_n 0, 1) := by decide +kernel
theorem dX10_see_16 : decode cX10_see 16 = .ok (.getfield 149, 3) := by decide +kernel
theorem dX10_see_19 : decode cX10_see 19 = .ok (.baload, 1) := by decide +kernel
theorem dX10_see_20 : decode cX10_see 20 = .ok (.sipush 255, 3) := by decide +kernel
theorem dX10_see_23 : decode cX10_see 23 = .ok (.iand, 1) := by decide +kernel
theorem dX10_see_24 : decode cX10_see 24 = .ok (.goto 4, 3) := by decide +kernel
theorem dX10_see_27 : decode cX10_see 27 = .ok (.iconst (-1), 1) := by decide +kernel
theorem dX10_see_28 : decode cX10_see 28 = .ok (.ireturn, 1) := by decide +kernel
theorem dX10_isSmall_0 : decode cX10_isSmall 0 = .ok (.aload_n 0, 1) := by decide +kernel
theorem dX10_isSmall_1 : decode cX10_isSmall 1 = .ok (.invokevirtual 152, 3) := by decide +kernel
theorem dX10_isSmall_4 : decode cX10_isSmall 4 = .ok (.bipush 97, 2) := by decide +kernel
theorem dX10_isSmall_6 : decode cX10_isSmall 6 = .ok (.bipush 122, 2) := by decide +kernel
theorem dX10_isSmall_8 : decode cX10_isSmall 8 = .ok (.invokestatic 101, 3) := by decide +kernel
theorem dX10_isSmall_11 : decode cX10_isSmall 11 = .ok (.ireturn, 1) := by decide +kernel
theorem dX10_isDigit_0 : decode cX10_isDigit 0 = .ok (.aload_n 0, 1) := by decide +kernel
theorem dX10_isDigit_1 : decode cX10_isDigit 1 = .ok (.invokevirtual 152, 3) := by decide +kernel
theorem dX10_isDigit_4 : decode cX10_isDigit 4 = .ok (.bipush 48, 2) := by decide +kernel
theorem dX10_isDigit_6 : decode cX10_isDigit 6 = .ok (.bipush 57, 2) := by decide +kernel
theorem dX10_isDigit_8 : decode cX10_isDigit 8 = .ok (.invokestatic 101, 3) := by decide +kernel
theorem dX10_isDigit_11 : decode cX10_isDigit 11 = .ok (.ireturn, 1) := by decide +kernel
theorem dX10_signOf_0 : decode cX10_signOf 0 = .ok (.iload_n 1, 1) := by decide +kernel
theorem dX10_signOf_1 : decode cX10_signOf 1 = .ok (.bipush 59, 2) := by decide +kernel
theorem dX10_signOf_3 : decode cX10_signOf 3 = .ok (.if_icmp .ne 7, 3) := by decide +kernel
theorem dX10_signOf_6 : decode cX10_signOf 6 = .ok (.iconst 3, 1) := by decide +kernel
theorem dX10_signOf_7 : decode cX10_signOf 7 = .ok (.goto 25, 3) := by decide +kernel
theorem dX10_signOf_10 : decode cX10_signOf 10 = .ok (.iload_n 1, 1) := by decide +kernel
theorem dX10_signOf_11 : decode cX10_signOf 11 = .ok (.bipush 44, 2) := by decide +kernel
theorem dX10_signOf_13 : decode cX10_signOf 13 = .ok (.if_icmp .ne 7, 3) := by decide +kernel
theorem dX10_signOf_16 : decode cX10_signOf 16 = .ok (.iconst 4, 1) := by decide +kernel
theorem dX10_signOf_17 : decode cX10_signOf 17 = .ok (.goto 15, 3) := by decide +kernel
theorem dX10_signOf_20 : decode cX10_signOf 20 = .ok (.iload_n 1, 1) := by decide +kernel
theorem dX10_signOf_21 : decode cX10_signOf 21 = .ok (.bipush 45, 2) := by decide +kernel
theorem dX10_signOf_23 : decode cX10_signOf 23 = .ok (.if_icmp .ne 7, 3) := by decide +kernel
theorem dX10_signOf_26 : decode cX10_signOf 26 = .ok (.iconst 5, 1) := by decide +kernel
theorem dX10_signOf_27 : decode cX10_signOf 27 = .ok (.goto 5, 3) := by decide +kernel
theorem dX10_signOf_30 : decode cX10_signOf 30 = .ok (.bipush 6, 2) := by decide +kernel
theorem dX10_signOf_32 : decode cX10_signOf 32 = .ok (.ireturn, 1) := by decide +kernel
theorem dX10_goesOn_0 : decode cX10_goesOn 0 = .ok (.aload_n 0, 1) := by decide +kernel
theorem dX10_goesOn_1 : decode cX10_goesOn 1 = .ok (.invokevirtual 152, 3) := by decide +kernel
theorem dX10_goesOn_4 : decode cX10_goesOn 4 = .ok (.bipush 32, 2) := by decide +kernel
theorem dX10_goesOn_6 : decode cX10_goesOn 6 = .ok (.if_icmp .eq 12, 3) := by decide +kernel
theorem dX10_goesOn_9 : decode cX10_goesOn 9 = .ok (.aload_n 0, 1) := by decide +kernel
theorem dX10_goesOn_10 : decode cX10_goesOn 10 = .ok (.invokevirtual 152, 3) := by decide +kernel
theorem dX10_goesOn_13 : decode cX10_goesOn 13 = .ok (.bipush 10, 2) := by decide +kernel
theorem dX10_goesOn_15 : decode cX10_goesOn 15 = .ok (.if_icmp .ne 16, 3) := by decide +kernel
theorem dX10_goesOn_18 : decode cX10_goesOn 18 = .ok (.aload_n 0, 1) := by decide +kernel
theorem dX10_goesOn_19 : decode cX10_goesOn 19 = .ok (.dup, 1) := by decide +kernel
theorem dX10_goesOn_20 : decode cX10_goesOn 20 = .ok (.getfield 149, 3) := by decide +kernel
theorem dX10_goesOn_23 : decode cX10_goesOn 23 = .ok (.iconst 1, 1) := by decide +kernel
theorem dX10_goesOn_24 : decode cX10_goesOn 24 = .ok (.iadd, 1) := by decide +kernel
theorem dX10_goesOn_25 : decode cX10_goesOn 25 = .ok (.putfield 149, 3) := by decide +kernel
theorem dX10_goesOn_28 : decode cX10_goesOn 28 = .ok (.goto (-28), 3) := by decide +kernel
theorem dX10_goesOn_31 : decode cX10_goesOn 31 = .ok (.aload_n 0, 1) := by decide +kernel
theorem dX10_goesOn_32 : decode cX10_goesOn 32 = .ok (.aload_n 0, 1) := by decide +kernel
theorem dX10_goesOn_33 : decode cX10_goesOn 33 = .ok (.getfield 149, 3) := by decide +kernel
theorem dX10_goesOn_36 : decode cX10_goesOn 36 = .ok (.putfield 155, 3) := by decide +kernel
theorem dX10_goesOn_39 : decode cX10_goesOn 39 = .ok (.aload_n 0, 1) := by decide +kernel
theorem dX10_goesOn_40 : decode cX10_goesOn 40 = .ok (.aload_n 0, 1) := by decide +kernel
theorem dX10_goesOn_41 : decode cX10_goesOn 41 = .ok (.invokevirtual 152, 3) := by decide +kernel
theorem dX10_goesOn_44 : decode cX10_goesOn 44 = .ok (.iconst (-1), 1) := by decide +kernel
theorem dX10_goesOn_45 : decode cX10_goesOn 45 = .ok (.if_icmp .ne 7, 3) := by decide +kernel
theorem dX10_goesOn_48 : decode cX10_goesOn 48 = .ok (.iconst 0, 1) := by decide +kernel
theorem dX10_goesOn_49 : decode cX10_goesOn 49 = .ok (.goto 33, 3) := by decide +kernel
theorem dX10_goesOn_52 : decode cX10_goesOn 52 = .ok (.aload_n 0, 1) := by decide +kernel
theorem dX10_goesOn_53 : decode cX10_goesOn 53 = .ok (.invokevirtual 158, 3) := by decide +kernel
theorem dX10_goesOn_56 : decode cX10_goesOn 56 = .ok (.ifCond .eq 7, 3) := by decide +kernel
theorem dX10_goesOn_59 : decode cX10_goesOn 59 = .ok (.iconst 1, 1) := by decide +kernel
theorem dX10_goesOn_60 : decode cX10_goesOn 60 = .ok (.goto 22, 3) := by decide +kernel
theorem dX10_goesOn_63 : decode cX10_goesOn 63 = .ok (.aload_n 0, 1) := by decide +kernel
theorem dX10_goesOn_64 : decode cX10_goesOn 64 = .ok (.invokevirtual 162, 3) := by decide +kernel
theorem dX10_goesOn_67 : decode cX10_goesOn 67 = .ok (.ifCond .eq 7, 3) := by decide +kernel
theorem dX10_goesOn_70 : decode cX10_goesOn 70 = .ok (.iconst 2, 1) := by decide +kernel
theorem dX10_goesOn_71 : decode cX10_goesOn 71 = .ok (.goto 11, 3) := by decide +kernel
theorem dX10_goesOn_74 : decode cX10_goesOn 74 = .ok (.aload_n 0, 1) := by decide +kernel
theorem dX10_goesOn_75 : decode cX10_goesOn 75 = .ok (.aload_n 0, 1) := by decide +kernel
theorem dX10_goesOn_76 : decode cX10_goesOn 76 = .ok (.invokevirtual 152, 3) := by decide +kernel
theorem dX10_goesOn_79 : decode cX10_goesOn 79 = .ok (.invokevirtual 165, 3) := by decide +kernel
theorem dX10_goesOn_82 : decode cX10_goesOn 82 = .ok (.putfield 169, 3) := by decide +kernel
theorem dX10_goesOn_85 : decode cX10_goesOn 85 = .ok (.aload_n 0, 1) := by decide +kernel
theorem dX10_goesOn_86 : decode cX10_goesOn 86 = .ok (.iconst 0, 1) := by decide +kernel
theorem dX10_goesOn_87 : decode cX10_goesOn 87 = .ok (.putfield 172, 3) := by decide +kernel
theorem dX10_goesOn_90 : decode cX10_goesOn 90 = .ok (.aload_n 0, 1) := by decide +kernel
theorem dX10_goesOn_91 : decode cX10_goesOn 91 = .ok (.dup, 1) := by decide +kernel
theorem dX10_goesOn_92 : decode cX10_goesOn 92 = .ok (.getfield 149, 3) := by decide +kernel
theorem dX10_goesOn_95 : decode cX10_goesOn 95 = .ok (.aload_n 0, 1) := by decide +kernel
theorem dX10_goesOn_96 : decode cX10_goesOn 96 = .ok (.getfield 169, 3) := by decide +kernel
theorem dX10_goesOn_99 : decode cX10_goesOn 99 = .ok (.iconst 3, 1) := by decide +kernel
theorem dX10_goesOn_100 : decode cX10_goesOn 100 = .ok (.if_icmp .lt 7, 3) := by decide +kernel
theorem dX10_goesOn_103 : decode cX10_goesOn 103 = .ok (.iconst 1, 1) := by decide +kernel
theorem dX10_goesOn_104 : decode cX10_goesOn 104 = .ok (.goto 4, 3) := by decide +kernel
theorem dX10_goesOn_107 : decode cX10_goesOn 107 = .ok (.iconst 0, 1) := by decide +kernel
theorem dX10_goesOn_108 : decode cX10_goesOn 108 = .ok (.iadd, 1) := by decide +kernel
theorem dX10_goesOn_109 : decode cX10_goesOn 109 = .ok (.putfield 149, 3) := by decide +kernel
theorem dX10_goesOn_112 : decode cX10_goesOn 112 = .ok (.aload_n 0, 1) := by decide +kernel
theorem dX10_goesOn_113 : decode cX10_goesOn 113 = .ok (.getfield 169, 3) := by decide +kernel
theorem dX10_goesOn_116 : decode cX10_goesOn 116 = .ok (.iconst 1, 1) := by decide +kernel
theorem dX10_goesOn_117 : decode cX10_goesOn 117 = .ok (.if_icmp .ne 23, 3) := by decide +kernel
theorem dX10_goesOn_120 : decode cX10_goesOn 120 = .ok (.aload_n 0, 1) := by decide +kernel
theorem dX10_goesOn_121 : decode cX10_goesOn 121 = .ok (.invokevirtual 158, 3) := by decide +kernel
theorem dX10_goesOn_124 : decode cX10_goesOn 124 = .ok (.ifCond .eq 16, 3) := by decide +kernel
theorem dX10_goesOn_127 : decode cX10_goesOn 127 = .ok (.aload_n 0, 1) := by decide +kernel
theorem dX10_goesOn_128 : decode cX10_goesOn 128 = .ok (.dup, 1) := by decide +kernel
theorem dX10_goesOn_129 : decode cX10_goesOn 129 = .ok (.getfield 149, 3) := by decide +kernel
theorem dX10_goesOn_132 : decode cX10_goesOn 132 = .ok (.iconst 1, 1) := by decide +kernel
theorem dX10_goesOn_133 : decode cX10_goesOn 133 = .ok (.iadd, 1) := by decide +kernel
theorem dX10_goesOn_134 : decode cX10_goesOn 134 = .ok (.putfield 149, 3) := by decide +kernel
theorem dX10_goesOn_137 : decode cX10_goesOn 137 = .ok (.goto (-25), 3) := by decide +kernel
theorem dX10_goesOn_140 : decode cX10_goesOn 140 = .ok (.aload_n 0, 1) := by decide +kernel
theorem dX10_goesOn_141 : decode cX10_goesOn 141 = .ok (.getfield 169, 3) := by decide +kernel
theorem dX10_goesOn_144 : decode cX10_goesOn 144 = .ok (.iconst 2, 1) := by decide +kernel
theorem dX10_goesOn_145 : decode cX10_goesOn 145 = .ok (.if_icmp .ne 59, 3) := by decide +kernel
theorem dX10_goesOn_148 : decode cX10_goesOn 148 = .ok (.aload_n 0, 1) := by decide +kernel
theorem dX10_goesOn_149 : decode cX10_goesOn 149 = .ok (.invokevirtual 162, 3) := by decide +kernel
theorem dX10_goesOn_152 : decode cX10_goesOn 152 = .ok (.ifCond .eq 52, 3) := by decide +kernel
theorem dX10_goesOn_155 : decode cX10_goesOn 155 = .ok (.aload_n 0, 1) := by decide +kernel
theorem dX10_goesOn_156 : decode cX10_goesOn 156 = .ok (.aload_n 0, 1) := by decide +kernel
theorem dX10_goesOn_157 : decode cX10_goesOn 157 = .ok (.getfield 172, 3) := by decide +kernel
theorem dX10_goesOn_160 : decode cX10_goesOn 160 = .ok (.sipush 10000, 3) := by decide +kernel
theorem dX10_goesOn_163 : decode cX10_goesOn 163 = .ok (.if_icmp .le 10, 3) := by decide +kernel
theorem dX10_goesOn_166 : decode cX10_goesOn 166 = .ok (.aload_n 0, 1) := by decide +kernel
theorem dX10_goesOn_167 : decode cX10_goesOn 167 = .ok (.getfield 172, 3) := by decide +kernel
theorem dX10_goesOn_170 : decode cX10_goesOn 170 = .ok (.goto 18, 3) := by decide +kernel
theorem dX10_goesOn_173 : decode cX10_goesOn 173 = .ok (.bipush 10, 2) := by decide +kernel
theorem dX10_goesOn_175 : decode cX10_goesOn 175 = .ok (.aload_n 0, 1) := by decide +kernel
theorem dX10_goesOn_176 : decode cX10_goesOn 176 = .ok (.getfield 172, 3) := by decide +kernel
theorem dX10_goesOn_179 : decode cX10_goesOn 179 = .ok (.imul, 1) := by decide +kernel
theorem dX10_goesOn_180 : decode cX10_goesOn 180 = .ok (.aload_n 0, 1) := by decide +kernel
theorem dX10_goesOn_181 : decode cX10_goesOn 181 = .ok (.invokevirtual 152, 3) := by decide +kernel
theorem dX10_goesOn_184 : decode cX10_goesOn 184 = .ok (.iadd, 1) := by decide +kernel
theorem dX10_goesOn_185 : decode cX10_goesOn 185 = .ok (.bipush 48, 2) := by decide +kernel
theorem dX10_goesOn_187 : decode cX10_goesOn 187 = .ok (.isub, 1) := by decide +kernel
theorem dX10_goesOn_188 : decode cX10_goesOn 188 = .ok (.putfield 172, 3) := by decide +kernel
theorem dX10_goesOn_191 : decode cX10_goesOn 191 = .ok (.aload_n 0, 1) := by decide +kernel
theorem dX10_goesOn_192 : decode cX10_goesOn 192 = .ok (.dup, 1) := by decide +kernel
theorem dX10_goesOn_193 : decode cX10_goesOn 193 = .ok (.getfield 149, 3) := by decide +kernel
theorem dX10_goesOn_196 : decode cX10_goesOn 196 = .ok (.iconst 1, 1) := by decide +kernel
theorem dX10_goesOn_197 : decode cX10_goesOn 197 = .ok (.iadd, 1) := by decide +kernel
theorem dX10_goesOn_198 : decode cX10_goesOn 198 = .ok (.putfield 149, 3) := by decide +kernel
theorem dX10_goesOn_201 : decode cX10_goesOn 201 = .ok (.goto (-61), 3) := by decide +kernel
theorem dX10_goesOn_204 : decode cX10_goesOn 204 = .ok (.return_, 1) := by decide +kernel
theorem dX10_fails_0 : decode cX10_fails 0 = .ok (.aload_n 0, 1) := by decide +kernel
theorem dX10_fails_1 : decode cX10_fails 1 = .ok (.getfield 175, 3) := by decide +kernel
theorem dX10_fails_4 : decode cX10_fails 4 = .ok (.ifCond .ne 16, 3) := by decide +kernel
theorem dX10_fails_7 : decode cX10_fails 7 = .ok (.aload_n 0, 1) := by decide +kernel
theorem dX10_fails_8 : decode cX10_fails 8 = .ok (.iload_n 1, 1) := by decide +kernel
theorem dX10_fails_9 : decode cX10_fails 9 = .ok (.putfield 175, 3) := by decide +kernel
theorem dX10_fails_12 : decode cX10_fails 12 = .ok (.aload_n 0, 1) := by decide +kernel
theorem dX10_fails_13 : decode cX10_fails 13 = .ok (.aload_n 0, 1) := by decide +kernel
theorem dX10_fails_14 : decode cX10_fails 14 = .ok (.getfield 155, 3) := by decide +kernel
theorem dX10_fails_17 : decode cX10_fails 17 = .ok (.putfield 36, 3) := by decide +kernel
theorem dX10_fails_20 : decode cX10_fails 20 = .ok (.return_, 1) := by decide +kernel
theorem dX10_wordHere_0 : decode cX10_wordHere 0 = .ok (.iconst 0, 1) := by decide +kernel
theorem dX10_wordHere_1 : decode cX10_wordHere 1 = .ok (.istore_n 1, 1) := by decide +kernel
theorem dX10_wordHere_2 : decode cX10_wordHere 2 = .ok (.iconst 0, 1) := by decide +kernel
theorem dX10_wordHere_3 : decode cX10_wordHere 3 = .ok (.istore_n 2, 1) := by decide +kernel
theorem dX10_wordHere_4 : decode cX10_wordHere 4 = .ok (.aload_n 0, 1) := by decide +kernel
theorem dX10_wordHere_5 : decode cX10_wordHere 5 = .ok (.getfield 169, 3) := by decide +kernel
theorem dX10_wordHere_8 : decode cX10_wordHere 8 = .ok (.iconst 1, 1) := by decide +kernel
theorem dX10_wordHere_9 : decode cX10_wordHere 9 = .ok (.if_icmp .ne 111, 3) := by decide +kernel
theorem dX10_wordHere_12 : decode cX10_wordHere 12 = .ok (.iload_n 2, 1) := by decide +kernel
theorem dX10_wordHere_13 : decode cX10_wordHere 13 = .ok (.iconst 5, 1) := by decide +kernel
theorem dX10_wordHere_14 : decode cX10_wordHere 14 = .ok (.if_icmp .ge 106, 3) := by decide +kernel
theorem dX10_wordHere_17 : decode cX10_wordHere 17 = .ok (.iconst 0, 1) := by decide +kernel
theorem dX10_wordHere_18 : decode cX10_wordHere 18 = .ok (.istore_n 3, 1) := by decide +kernel
theorem dX10_wordHere_19 : decode cX10_wordHere 19 = .ok (.iconst 1, 1) := by decide +kernel
theorem dX10_wordHere_20 : decode cX10_wordHere 20 = .ok (.istore 4, 2) := by decide +kernel
theorem dX10_wordHere_22 : decode cX10_wordHere 22 = .ok (.aload_n 0, 1) := by decide +kernel
theorem dX10_wordHere_23 : decode cX10_wordHere 23 = .ok (.getfield 40, 3) := by decide +kernel
theorem dX10_wordHere_26 : decode cX10_wordHere 26 = .ok (.iload_n 1, 1) := by decide +kernel
theorem dX10_wordHere_27 : decode cX10_wordHere 27 = .ok (.iload_n 3, 1) := by decide +kernel
theorem dX10_wordHere_28 : decode cX10_wordHere 28 = .ok (.iadd, 1) := by decide +kernel
theorem dX10_wordHere_29 : decode cX10_wordHere 29 = .ok (.baload, 1) := by decide +kernel
theorem dX10_wordHere_30 : decode cX10_wordHere 30 = .ok (.bipush 32, 2) := by decide +kernel
theorem dX10_wordHere_32 : decode cX10_wordHere 32 = .ok (.if_icmp .eq 56, 3) := by decide +kernel
theorem dX10_wordHere_35 : decode cX10_wordHere 35 = .ok (.iload 4, 2) := by decide +kernel
theorem dX10_wordHere_37 : decode cX10_wordHere 37 = .ok (.ifCond .eq 42, 3) := by decide +kernel
theorem dX10_wordHere_40 : decode cX10_wordHere 40 = .ok (.aload_n 0, 1) := by decide +kernel
theorem dX10_wordHere_41 : decode cX10_wordHere 41 = .ok (.getfield 155, 3) := by decide +kernel
theorem dX10_wordHere_44 : decode cX10_wordHere 44 = .ok (.iload_n 3, 1) := by decide +kernel
theorem dX10_wordHere_45 : decode cX10_wordHere 45 = .ok (.iadd, 1) := by decide +kernel
theorem dX10_wordHere_46 : decode cX10_wordHere 46 = .ok (.aload_n 0, 1) := by decide +kernel
theorem dX10_wordHere_47 : decode cX10_wordHere 47 = .ok (.getfield 149, 3) := by decide +kernel
theorem dX10_wordHere_50 : decode cX10_wordHere 50 = .ok (.if_icmp .ge 29, 3) := by decide +kernel
theorem dX10_wordHere_53 : decode cX10_wordHere 53 = .ok (.aload_n 0, 1) := by decide +kernel
theorem dX10_wordHere_54 : decode cX10_wordHere 54 = .ok (.getfield 32, 3) := by decide +kernel
theorem dX10_wordHere_57 : decode cX10_wordHere 57 = .ok (.aload_n 0, 1) := by decide +kernel
theorem dX10_wordHere_58 : decode cX10_wordHere 58 = .ok (.getfield 155, 3) := by decide +kernel
theorem dX10_wordHere_61 : decode cX10_wordHere 61 = .ok (.iload_n 3, 1) := by decide +kernel
theorem dX10_wordHere_62 : decode cX10_wordHere 62 = .ok (.iadd, 1) := by decide +kernel
theorem dX10_wordHere_63 : decode cX10_wordHere 63 = .ok (.baload, 1) := by decide +kernel
theorem dX10_wordHere_64 : decode cX10_wordHere 64 = .ok (.aload_n 0, 1) := by decide +kernel
theorem dX10_wordHere_65 : decode cX10_wordHere 65 = .ok (.getfield 40, 3) := by decide +kernel
theorem dX10_wordHere_68 : decode cX10_wordHere 68 = .ok (.iload_n 1, 1) := by decide +kernel
theorem dX10_wordHere_69 : decode cX10_wordHere 69 = .ok (.iload_n 3, 1) := by decide +kernel
theorem dX10_wordHere_70 : decode cX10_wordHere 70 = .ok (.iadd, 1) := by decide +kernel
theorem dX10_wordHere_71 : decode cX10_wordHere 71 = .ok (.baload, 1) := by decide +kernel
theorem dX10_wordHere_72 : decode cX10_wordHere 72 = .ok (.if_icmp .ne 7, 3) := by decide +kernel
theorem dX10_wordHere_75 : decode cX10_wordHere 75 = .ok (.iconst 1, 1) := by decide +kernel
theorem dX10_wordHere_76 : decode cX10_wordHere 76 = .ok (.goto 4, 3) := by decide +kernel
theorem dX10_wordHere_79 : decode cX10_wordHere 79 = .ok (.iconst 0, 1) := by decide +kernel
theorem dX10_wordHere_80 : decode cX10_wordHere 80 = .ok (.istore 4, 2) := by decide +kernel
theorem dX10_wordHere_82 : decode cX10_wordHere 82 = .ok (.iinc 3 1, 3) := by decide +kernel
theorem dX10_wordHere_85 : decode cX10_wordHere 85 = .ok (.goto (-63), 3) := by decide +kernel
theorem dX10_wordHere_88 : decode cX10_wordHere 88 = .ok (.iload 4, 2) := by decide +kernel
theorem dX10_wordHere_90 : decode cX10_wordHere 90 = .ok (.ifCond .eq 18, 3) := by decide +kernel
theorem dX10_wordHere_93 : decode cX10_wordHere 93 = .ok (.aload_n 0, 1) := by decide +kernel
theorem dX10_wordHere_94 : decode cX10_wordHere 94 = .ok (.getfield 149, 3) := by decide +kernel
theorem dX10_wordHere_97 : decode cX10_wordHere 97 = .ok (.aload_n 0, 1) := by decide +kernel
theorem dX10_wordHere_98 : decode cX10_wordHere 98 = .ok (.getfield 155, 3) := by decide +kernel
theorem dX10_wordHere_101 : decode cX10_wordHere 101 = .ok (.isub, 1) := by decide +kernel
theorem dX10_wordHere_102 : decode cX10_wordHere 102 = .ok (.iload_n 3, 1) := by decide +kernel
theorem dX10_wordHere_103 : decode cX10_wordHere 103 = .ok (.if_icmp .ne 5, 3) := by decide +kernel
theorem dX10_wordHere_106 : decode cX10_wordHere 106 = .ok (.iload_n 2, 1) := by decide +kernel
theorem dX10_wordHere_107 : decode cX10_wordHere 107 = .ok (.ireturn, 1) := by decide +kernel
theorem dX10_wordHere_108 : decode cX10_wordHere 108 = .ok (.iload_n 1, 1) := by decide +kernel
theorem dX10_wordHere_109 : decode cX10_wordHere 109 = .ok (.iload_n 3, 1) := by decide +kernel
theorem dX10_wordHere_110 : decode cX10_wordHere 110 = .ok (.iconst 1, 1) := by decide +kernel
theorem dX10_wordHere_111 : decode cX10_wordHere 111 = .ok (.iadd, 1) := by decide +kernel
theorem dX10_wordHere_112 : decode cX10_wordHere 112 = .ok (.iadd, 1) := by decide +kernel
theorem dX10_wordHere_113 : decode cX10_wordHere 113 = .ok (.istore_n 1, 1) := by decide +kernel
theorem dX10_wordHere_114 : decode cX10_wordHere 114 = .ok (.iinc 2 1, 3) := by decide +kernel
theorem dX10_wordHere_117 : decode cX10_wordHere 117 = .ok (.goto (-113), 3) := by decide +kernel
theorem dX10_wordHere_120 : decode cX10_wordHere 120 = .ok (.iconst (-1), 1) := by decide +kernel
theorem dX10_wordHere_121 : decode cX10_wordHere 121 = .ok (.ireturn, 1) := by decide +kernel
theorem dX10_looks_0 : decode cX10_looks 0 = .ok (.aload_n 0, 1) := by decide +kernel
theorem dX10_looks_1 : decode cX10_looks 1 = .ok (.getfield 169, 3) := by decide +kernel
theorem dX10_looks_4 : decode cX10_looks 4 = .ok (.iconst 2, 1) := by decide +kernel
theorem dX10_looks_5 : decode cX10_looks 5 = .ok (.if_icmp .eq 11, 3) := by decide +kernel
theorem dX10_looks_8 : decode cX10_looks 8 = .ok (.aload_n 0, 1) := by decide +kernel
theorem dX10_looks_9 : decode cX10_looks 9 = .ok (.iconst 1, 1) := by decide +kernel
theorem dX10_looks_10 : decode cX10_looks 10 = .ok (.invokevirtual 178, 3) := by decide +kernel
theorem dX10_looks_13 : decode cX10_looks 13 = .ok (.goto 20, 3) := by decide +kernel
theorem dX10_looks_16 : decode cX10_looks 16 = .ok (.aload_n 0, 1) := by decide +kernel
theorem dX10_looks_17 : decode cX10_looks 17 = .ok (.getfield 172, 3) := by decide +kernel
theorem dX10_looks_20 : decode cX10_looks 20 = .ok (.iload_n 1, 1) := by decide +kernel
theorem dX10_looks_21 : decode cX10_looks 21 = .ok (.iload_n 2, 1) := by decide +kernel
theorem dX10_looks_22 : decode cX10_looks 22 = .ok (.invokestatic 101, 3) := by decide +kernel
theorem dX10_looks_25 : decode cX10_looks 25 = .ok (.ifCond .ne 8, 3) := by decide +kernel
theorem dX10_looks_28 : decode cX10_looks 28 = .ok (.aload_n 0, 1) := by decide +kernel
theorem dX10_looks_29 : decode cX10_looks 29 = .ok (.iconst 2, 1) := by decide +kernel
theorem dX10_looks_30 : decode cX10_looks 30 = .ok (.invokevirtual 178, 3) := by decide +kernel
theorem dX10_looks_33 : decode cX10_looks 33 = .ok (.return_, 1) := by decide +kernel
theorem dX10_reads_0 : decode cX10_reads 0 = .ok (.aload_n 0, 1) := by decide +kernel
theorem dX10_reads_1 : decode cX10_reads 1 = .ok (.iload_n 1, 1) := by decide +kernel
theorem dX10_reads_2 : decode cX10_reads 2 = .ok (.iload_n 2, 1) := by decide +kernel
theorem dX10_reads_3 : decode cX10_reads 3 = .ok (.invokevirtual 182, 3) := by decide +kernel
theorem dX10_reads_6 : decode cX10_reads 6 = .ok (.aload_n 0, 1) := by decide +kernel
theorem dX10_reads_7 : decode cX10_reads 7 = .ok (.getfield 175, 3) := by decide +kernel
theorem dX10_reads_10 : decode cX10_reads 10 = .ok (.ifCond .le 5, 3) := by decide +kernel
theorem dX10_reads_13 : decode cX10_reads 13 = .ok (.iload_n 1, 1) := by decide +kernel
theorem dX10_reads_14 : decode cX10_reads 14 = .ok (.ireturn, 1) := by decide +kernel
theorem dX10_reads_15 : decode cX10_reads 15 = .ok (.aload_n 0, 1) := by decide +kernel
theorem dX10_reads_16 : decode cX10_reads 16 = .ok (.getfield 172, 3) := by decide +kernel
theorem dX10_reads_19 : decode cX10_reads 19 = .ok (.istore_n 3, 1) := by decide +kernel
theorem dX10_reads_20 : decode cX10_reads 20 = .ok (.aload_n 0, 1) := by decide +kernel
theorem dX10_reads_21 : decode cX10_reads 21 = .ok (.invokevirtual 185, 3) := by decide +kernel
theorem dX10_reads_24 : decode cX10_reads 24 = .ok (.iload_n 3, 1) := by decide +kernel
theorem dX10_reads_25 : decode cX10_reads 25 = .ok (.ireturn, 1) := by decide +kernel
theorem dX10_must_0 : decode cX10_must 0 = .ok (.iload_n 1, 1) := by decide +kernel
theorem dX10_must_1 : decode cX10_must 1 = .ok (.ifCond .ne 8, 3) := by decide +kernel
theorem dX10_must_4 : decode cX10_must 4 = .ok (.aload_n 0, 1) := by decide +kernel
theorem dX10_must_5 : decode cX10_must 5 = .ok (.iload_n 2, 1) := by decide +kernel
theorem dX10_must_6 : decode cX10_must 6 = .ok (.invokevirtual 178, 3) := by decide +kernel
theorem dX10_must_9 : decode cX10_must 9 = .ok (.return_, 1) := by decide +kernel
theorem dX10_readPrime_0 : decode cX10_readPrime 0 = .ok (.aload_n 0, 1) := by decide +kernel
theorem dX10_readPrime_1 : decode cX10_readPrime 1 = .ok (.bipush 13, 2) := by decide +kernel
theorem dX10_readPrime_3 : decode cX10_readPrime 3 = .ok (.bipush 97, 2) := by decide +kernel
theorem dX10_readPrime_5 : decode cX10_readPrime 5 = .ok (.invokevirtual 182, 3) := by decide +kernel
theorem dX10_readPrime_8 : decode cX10_readPrime 8 = .ok (.aload_n 0, 1) := by decide +kernel
theorem dX10_readPrime_9 : decode cX10_readPrime 9 = .ok (.aload_n 0, 1) := by decide +kernel
theorem dX10_readPrime_10 : decode cX10_readPrime 10 = .ok (.getfield 175, 3) := by decide +kernel
theorem dX10_readPrime_13 : decode cX10_readPrime 13 = .ok (.ifCond .gt 14, 3) := by decide +kernel
theorem dX10_readPrime_16 : decode cX10_readPrime 16 = .ok (.aload_n 0, 1) := by decide +kernel
theorem dX10_readPrime_17 : decode cX10_readPrime 17 = .ok (.aload_n 0, 1) := by decide +kernel
theorem dX10_readPrime_18 : decode cX10_readPrime 18 = .ok (.getfield 172, 3) := by decide +kernel
theorem dX10_readPrime_21 : decode cX10_readPrime 21 = .ok (.invokevirtual 188, 3) := by decide +kernel
theorem dX10_readPrime_24 : decode cX10_readPrime 24 = .ok (.ifCond .eq 7, 3) := by decide +kernel
theorem dX10_readPrime_27 : decode cX10_readPrime 27 = .ok (.iconst 1, 1) := by decide +kernel
theorem dX10_readPrime_28 : decode cX10_readPrime 28 = .ok (.goto 4, 3) := by decide +kernel
theorem dX10_readPrime_31 : decode cX10_readPrime 31 = .ok (.iconst 0, 1) := by decide +kernel
theorem dX10_readPrime_32 : decode cX10_readPrime 32 = .ok (.iconst 2, 1) := by decide +kernel
theorem dX10_readPrime_33 : decode cX10_readPrime 33 = .ok (.invokevirtual 192, 3) := by decide +kernel
theorem dX10_readPrime_36 : decode cX10_readPrime 36 = .ok (.aload_n 0, 1) := by decide +kernel
theorem dX10_readPrime_37 : decode cX10_readPrime 37 = .ok (.bipush 13, 2) := by decide +kernel
theorem dX10_readPrime_39 : decode cX10_readPrime 39 = .ok (.bipush 97, 2) := by decide +kernel
theorem dX10_readPrime_41 : decode cX10_readPrime 41 = .ok (.invokevirtual 196, 3) := by decide +kernel
theorem dX10_readPrime_44 : decode cX10_readPrime 44 = .ok (.istore_n 1, 1) := by decide +kernel
theorem dX10_readPrime_45 : decode cX10_readPrime 45 = .ok (.aload_n 0, 1) := by decide +kernel
theorem dX10_readPrime_46 : decode cX10_readPrime 46 = .ok (.getfield 175, 3) := by decide +kernel
theorem dX10_readPrime_49 : decode cX10_readPrime 49 = .ok (.ifCond .ne 10, 3) := by decide +kernel
theorem dX10_readPrime_52 : decode cX10_readPrime 52 = .ok (.aload_n 0, 1) := by decide +kernel
theorem dX10_readPrime_53 : decode cX10_readPrime 53 = .ok (.getfield 7, 3) := by decide +kernel
theorem dX10_readPrime_56 : decode cX10_readPrime 56 = .ok (.iconst 0, 1) := by decide +kernel
theorem dX10_readPrime_57 : decode cX10_readPrime 57 = .ok (.iload_n 1, 1) := by decide +kernel
theorem dX10_readPrime_58 : decode cX10_readPrime 58 = .ok (.iastore, 1) := by decide +kernel
theorem dX10_readPrime_59 : decode cX10_readPrime 59 = .ok (.return_, 1) := by decide +kernel
theorem dX10_readJoin_0 : decode cX10_readJoin 0 = .ok (.aload_n 0, 1) := by decide +kernel
theorem dX10_readJoin_1 : decode cX10_readJoin 1 = .ok (.iconst 0, 1) := by decide +kernel
theorem dX10_readJoin_2 : decode cX10_readJoin 2 = .ok (.bipush 11, 2) := by decide +kernel
theorem dX10_readJoin_4 : decode cX10_readJoin 4 = .ok (.invokevirtual 196, 3) := by decide +kernel
theorem dX10_readJoin_7 : decode cX10_readJoin 7 = .ok (.istore_n 1, 1) := by decide +kernel
theorem dX10_readJoin_8 : decode cX10_readJoin 8 = .ok (.aload_n 0, 1) := by decide +kernel
theorem dX10_readJoin_9 : decode cX10_readJoin 9 = .ok (.iconst 0, 1) := by decide +kernel
theorem dX10_readJoin_10 : decode cX10_readJoin 10 = .ok (.bipush 11, 2) := by decide +kernel
theorem dX10_readJoin_12 : decode cX10_readJoin 12 = .ok (.invokevirtual 182, 3) := by decide +kernel
theorem dX10_readJoin_15 : decode cX10_readJoin 15 = .ok (.aload_n 0, 1) := by decide +kernel
theorem dX10_readJoin_16 : decode cX10_readJoin 16 = .ok (.aload_n 0, 1) := by decide +kernel
theorem dX10_readJoin_17 : decode cX10_readJoin 17 = .ok (.getfield 175, 3) := by decide +kernel
theorem dX10_readJoin_20 : decode cX10_readJoin 20 = .ok (.ifCond .gt 15, 3) := by decide +kernel
theorem dX10_readJoin_23 : decode cX10_readJoin 23 = .ok (.aload_n 0, 1) := by decide +kernel
theorem dX10_readJoin_24 : decode cX10_readJoin 24 = .ok (.iload_n 1, 1) := by decide +kernel
theorem dX10_readJoin_25 : decode cX10_readJoin 25 = .ok (.aload_n 0, 1) := by decide +kernel
theorem dX10_readJoin_26 : decode cX10_readJoin 26 = .ok (.getfield 172, 3) := by decide +kernel
theorem dX10_readJoin_29 : decode cX10_readJoin 29 = .ok (.invokevirtual 199, 3) := by decide +kernel
theorem dX10_readJoin_32 : decode cX10_readJoin 32 = .ok (.ifCond .eq 7, 3) := by decide +kernel
theorem dX10_readJoin_35 : decode cX10_readJoin 35 = .ok (.iconst 1, 1) := by decide +kernel
theorem dX10_readJoin_36 : decode cX10_readJoin 36 = .ok (.goto 4, 3) := by decide +kernel
theorem dX10_readJoin_39 : decode cX10_readJoin 39 = .ok (.iconst 0, 1) := by decide +kernel
theorem dX10_readJoin_40 : decode cX10_readJoin 40 = .ok (.iconst 4, 1) := by decide +kernel
theorem dX10_readJoin_41 : decode cX10_readJoin 41 = .ok (.invokevirtual 192, 3) := by decide +kernel
theorem dX10_readJoin_44 : decode cX10_readJoin 44 = .ok (.aload_n 0, 1) := by decide +kernel
theorem dX10_readJoin_45 : decode cX10_readJoin 45 = .ok (.iconst 0, 1) := by decide +kernel
theorem dX10_readJoin_46 : decode cX10_readJoin 46 = .ok (.bipush 11, 2) := by decide +kernel
theorem dX10_readJoin_48 : decode cX10_readJoin 48 = .ok (.invokevirtual 196, 3) := by decide +kernel
theorem dX10_readJoin_51 : decode cX10_readJoin 51 = .ok (.istore_n 2, 1) := by decide +kernel
theorem dX10_readJoin_52 : decode cX10_readJoin 52 = .ok (.aload_n 0, 1) := by decide +kernel
theorem dX10_readJoin_53 : decode cX10_readJoin 53 = .ok (.getfield 175, 3) := by decide +kernel
theorem dX10_readJoin_56 : decode cX10_readJoin 56 = .ok (.ifCond .ne 10, 3) := by decide +kernel
theorem dX10_readJoin_59 : decode cX10_readJoin 59 = .ok (.aload_n 0, 1) := by decide +kernel
theorem dX10_readJoin_60 : decode cX10_readJoin 60 = .ok (.iload_n 1, 1) := by decide +kernel
theorem dX10_readJoin_61 : decode cX10_readJoin 61 = .ok (.iload_n 2, 1) := by decide +kernel
theorem dX10_readJoin_62 : decode cX10_readJoin 62 = .ok (.invokevirtual 202, 3) := by decide +kernel
theorem dX10_readJoin_65 : decode cX10_readJoin 65 = .ok (.istore_n 3, 1) := by decide +kernel
theorem dX10_readJoin_66 : decode cX10_readJoin 66 = .ok (.return_, 1) := by decide +kernel
theorem dX10_readTerm_0 : decode cX10_readTerm 0 = .ok (.aload_n 0, 1) := by decide +kernel
theorem dX10_readTerm_1 : decode cX10_readTerm 1 = .ok (.getfield 175, 3) := by decide +kernel
theorem dX10_readTerm_4 : decode cX10_readTerm 4 = .ok (.ifCond .ne 15, 3) := by decide +kernel
theorem dX10_readTerm_7 : decode cX10_readTerm 7 = .ok (.aload_n 0, 1) := by decide +kernel
theorem dX10_readTerm_8 : decode cX10_readTerm 8 = .ok (.getfield 169, 3) := by decide +kernel
theorem dX10_readTerm_11 : decode cX10_readTerm 11 = .ok (.iconst 5, 1) := by decide +kernel
theorem dX10_readTerm_12 : decode cX10_readTerm 12 = .ok (.if_icmp .ne 7, 3) := by decide +kernel
theorem dX10_readTerm_15 : decode cX10_readTerm 15 = .ok (.iconst 1, 1) := by decide +kernel
theorem dX10_readTerm_16 : decode cX10_readTerm 16 = .ok (.goto 4, 3) := by decide +kernel
theorem dX10_readTerm_19 : decode cX10_readTerm 19 = .ok (.iconst 0, 1) := by decide +kernel
theorem dX10_readTerm_20 : decode cX10_readTerm 20 = .ok (.istore_n 2, 1) := by decide +kernel
theorem dX10_readTerm_21 : decode cX10_readTerm 21 = .ok (.iload_n 2, 1) := by decide +kernel
theorem dX10_readTerm_22 : decode cX10_readTerm 22 = .ok (.ifCond .eq 7, 3) := by decide +kernel
theorem dX10_readTerm_25 : decode cX10_readTerm 25 = .ok (.aload_n 0, 1) := by decide +kernel
theorem dX10_readTerm_26 : decode cX10_readTerm 26 = .ok (.invokevirtual 185, 3) := by decide +kernel
theorem dX10_readTerm_29 : decode cX10_readTerm 29 = .ok (.aload_n 0, 1) := by decide +kernel
theorem dX10_readTerm_30 : decode cX10_readTerm 30 = .ok (.iconst 0, 1) := by decide +kernel
theorem dX10_readTerm_31 : decode cX10_readTerm 31 = .ok (.sipush 999, 3) := by decide +kernel
theorem dX10_readTerm_34 : decode cX10_readTerm 34 = .ok (.invokevirtual 196, 3) := by decide +kernel
theorem dX10_readTerm_37 : decode cX10_readTerm 37 = .ok (.istore_n 3, 1) := by decide +kernel
theorem dX10_readTerm_38 : decode cX10_readTerm 38 = .ok (.aload_n 0, 1) := by decide +kernel
theorem dX10_readTerm_39 : decode cX10_readTerm 39 = .ok (.aload_n 0, 1) := by decide +kernel
theorem dX10_readTerm_40 : decode cX10_readTerm 40 = .ok (.iload_n 2, 1) := by decide +kernel
theorem dX10_readTerm_41 : decode cX10_readTerm 41 = .ok (.ifCond .eq 8, 3) := by decide +kernel
theorem dX10_readTerm_44 : decode cX10_readTerm 44 = .ok (.iload_n 3, 1) := by decide +kernel
theorem dX10_readTerm_45 : decode cX10_readTerm 45 = .ok (.ineg, 1) := by decide +kernel
theorem dX10_readTerm_46 : decode cX10_readTerm 46 = .ok (.goto 4, 3) := by decide +kernel
theorem dX10_readTerm_49 : decode cX10_readTerm 49 = .ok (.iload_n 3, 1) := by decide +kernel
theorem dX10_readTerm_50 : decode cX10_readTerm 50 = .ok (.invokevirtual 205, 3) := by decide +kernel
theorem dX10_readTerm_53 : decode cX10_readTerm 53 = .ok (.putfield 208, 3) := by decide +kernel
theorem dX10_readTerm_56 : decode cX10_readTerm 56 = .ok (.aload_n 0, 1) := by decide +kernel
theorem dX10_readTerm_57 : decode cX10_readTerm 57 = .ok (.aload_n 0, 1) := by decide +kernel
theorem dX10_readTerm_58 : decode cX10_readTerm 58 = .ok (.iconst 0, 1) := by decide +kernel
theorem dX10_readTerm_59 : decode cX10_readTerm 59 = .ok (.iload_n 1, 1) := by decide +kernel
theorem dX10_readTerm_60 : decode cX10_readTerm 60 = .ok (.invokevirtual 196, 3) := by decide +kernel
theorem dX10_readTerm_63 : decode cX10_readTerm 63 = .ok (.putfield 211, 3) := by decide +kernel
theorem dX10_readTerm_66 : decode cX10_readTerm 66 = .ok (.aload_n 0, 1) := by decide +kernel
theorem dX10_readTerm_67 : decode cX10_readTerm 67 = .ok (.iconst 0, 1) := by decide +kernel
theorem dX10_readTerm_68 : decode cX10_readTerm 68 = .ok (.iload_n 1, 1) := by decide +kernel
theorem dX10_readTerm_69 : decode cX10_readTerm 69 = .ok (.invokevirtual 182, 3) := by decide +kernel
theorem dX10_readTerm_72 : decode cX10_readTerm 72 = .ok (.return_, 1) := by decide +kernel
theorem dX10_isTermHere_0 : decode cX10_isTermHere 0 = .ok (.aload_n 0, 1) := by decide +kernel
theorem dX10_isTermHere_1 : decode cX10_isTermHere 1 = .ok (.getfield 175, 3) := by decide +kernel
theorem dX10_isTermHere_4 : decode cX10_isTermHere 4 = .ok (.ifCond .ne 23, 3) := by decide +kernel
theorem dX10_isTermHere_7 : decode cX10_isTermHere 7 = .ok (.aload_n 0, 1) := by decide +kernel
theorem dX10_isTermHere_8 : decode cX10_isTermHere 8 = .ok (.getfield 169, 3) := by decide +kernel
theorem dX10_isTermHere_11 : decode cX10_isTermHere 11 = .ok (.iconst 2, 1) := by decide +kernel
theorem dX10_isTermHere_12 : decode cX10_isTermHere 12 = .ok (.if_icmp .eq 11, 3) := by decide +kernel
theorem dX10_isTermHere_15 : decode cX10_isTermHere 15 = .ok (.aload_n 0, 1) := by decide +kernel
theorem dX10_isTermHere_16 : decode cX10_isTermHere 16 = .ok (.getfield 169, 3) := by decide +kernel
theorem dX10_isTermHere_19 : decode cX10_isTermHere 19 = .ok (.iconst 5, 1) := by decide +kernel
theorem dX10_isTermHere_20 : decode cX10_isTermHere 20 = .ok (.if_icmp .ne 7, 3) := by decide +kernel
theorem dX10_isTermHere_23 : decode cX10_isTermHere 23 = .ok (.iconst 1, 1) := by decide +kernel
theorem dX10_isTermHere_24 : decode cX10_isTermHere 24 = .ok (.goto 4, 3) := by decide +kernel
theorem dX10_isTermHere_27 : decode cX10_isTermHere 27 = .ok (.iconst 0, 1) := by decide +kernel
theorem dX10_isTermHere_28 : decode cX10_isTermHere 28 = .ok (.ireturn, 1) := by decide +kernel
theorem dX10_hasComma_0 : decode cX10_hasComma 0 = .ok (.aload_n 0, 1) := by decide +kernel
theorem dX10_hasComma_1 : decode cX10_hasComma 1 = .ok (.getfield 175, 3) := by decide +kernel
theorem dX10_hasComma_4 : decode cX10_hasComma 4 = .ok (.ifCond .ne 15, 3) := by decide +kernel
theorem dX10_hasComma_7 : decode cX10_hasComma 7 = .ok (.aload_n 0, 1) := by decide +kernel
theorem dX10_hasComma_8 : decode cX10_hasComma 8 = .ok (.getfield 169, 3) := by decide +kernel
theorem dX10_hasComma_11 : decode cX10_hasComma 11 = .ok (.iconst 4, 1) := by decide +kernel
theorem dX10_hasComma_12 : decode cX10_hasComma 12 = .ok (.if_icmp .ne 7, 3) := by decide +kernel
theorem dX10_hasComma_15 : decode cX10_hasComma 15 = .ok (.iconst 1, 1) := by decide +kernel
theorem dX10_hasComma_16 : decode cX10_hasComma 16 = .ok (.goto 4, 3) := by decide +kernel
theorem dX10_hasComma_19 : decode cX10_hasComma 19 = .ok (.iconst 0, 1) := by decide +kernel
theorem dX10_hasComma_20 : decode cX10_hasComma 20 = .ok (.istore_n 1, 1) := by decide +kernel
theorem dX10_hasComma_21 : decode cX10_hasComma 21 = .ok (.iload_n 1, 1) := by decide +kernel
theorem dX10_hasComma_22 : decode cX10_hasComma 22 = .ok (.ifCond .eq 7, 3) := by decide +kernel
theorem dX10_hasComma_25 : decode cX10_hasComma 25 = .ok (.aload_n 0, 1) := by decide +kernel
theorem dX10_hasComma_26 : decode cX10_hasComma 26 = .ok (.invokevirtual 185, 3) := by decide +kernel
theorem dX10_hasComma_29 : decode cX10_hasComma 29 = .ok (.iload_n 1, 1) := by decide +kernel
theorem dX10_hasComma_30 : decode cX10_hasComma 30 = .ok (.ireturn, 1) := by decide +kernel
theorem dX10_readRule_0 : decode cX10_readRule 0 = .ok (.aload_n 0, 1) := by decide +kernel
theorem dX10_readRule_1 : decode cX10_readRule 1 = .ok (.iconst 0, 1) := by decide +kernel
theorem dX10_readRule_2 : decode cX10_readRule 2 = .ok (.bipush 12, 2) := by decide +kernel
theorem dX10_readRule_4 : decode cX10_readRule 4 = .ok (.invokevirtual 196, 3) := by decide +kernel
theorem dX10_readRule_7 : decode cX10_readRule 7 = .ok (.istore_n 1, 1) := by decide +kernel
theorem dX10_readRule_8 : decode cX10_readRule 8 = .ok (.aload_n 0, 1) := by decide +kernel
theorem dX10_readRule_9 : decode cX10_readRule 9 = .ok (.iconst 0, 1) := by decide +kernel
theorem dX10_readRule_10 : decode cX10_readRule 10 = .ok (.bipush 12, 2) := by decide +kernel
theorem dX10_readRule_12 : decode cX10_readRule 12 = .ok (.invokevirtual 182, 3) := by decide +kernel
theorem dX10_readRule_15 : decode cX10_readRule 15 = .ok (.aload_n 0, 1) := by decide +kernel
theorem dX10_readRule_16 : decode cX10_readRule 16 = .ok (.aload_n 0, 1) := by decide +kernel
theorem dX10_readRule_17 : decode cX10_readRule 17 = .ok (.getfield 175, 3) := by decide +kernel
theorem dX10_readRule_20 : decode cX10_readRule 20 = .ok (.ifCond .gt 16, 3) := by decide +kernel
theorem dX10_readRule_23 : decode cX10_readRule 23 = .ok (.aload_n 0, 1) := by decide +kernel
theorem dX10_readRule_24 : decode cX10_readRule 24 = .ok (.iload_n 1, 1) := by decide +kernel
theorem dX10_readRule_25 : decode cX10_readRule 25 = .ok (.aload_n 0, 1) := by decide +kernel
theorem dX10_readRule_26 : decode cX10_readRule 26 = .ok (.getfield 172, 3) := by decide +kernel
theorem dX10_readRule_29 : decode cX10_readRule 29 = .ok (.invokevirtual 119, 3) := by decide +kernel
theorem dX10_readRule_32 : decode cX10_readRule 32 = .ok (.iconst (-1), 1) := by decide +kernel
theorem dX10_readRule_33 : decode cX10_readRule 33 = .ok (.if_icmp .eq 7, 3) := by decide +kernel
theorem dX10_readRule_36 : decode cX10_readRule 36 = .ok (.iconst 1, 1) := by decide +kernel
theorem dX10_readRule_37 : decode cX10_readRule 37 = .ok (.goto 4, 3) := by decide +kernel
theorem dX10_readRule_40 : decode cX10_readRule 40 = .ok (.iconst 0, 1) := by decide +kernel
theorem dX10_readRule_41 : decode cX10_readRule 41 = .ok (.iconst 4, 1) := by decide +kernel
theorem dX10_readRule_42 : decode cX10_readRule 42 = .ok (.invokevirtual 192, 3) := by decide +kernel
theorem dX10_readRule_45 : decode cX10_readRule 45 = .ok (.aload_n 0, 1) := by decide +kernel
theorem dX10_readRule_46 : decode cX10_readRule 46 = .ok (.getfield 175, 3) := by decide +kernel
theorem dX10_readRule_49 : decode cX10_readRule 49 = .ok (.ifCond .le 7, 3) := by decide +kernel
theorem dX10_readRule_52 : decode cX10_readRule 52 = .ok (.iconst 0, 1) := by decide +kernel
theorem dX10_readRule_53 : decode cX10_readRule 53 = .ok (.goto 12, 3) := by decide +kernel
theorem dX10_readRule_56 : decode cX10_readRule 56 = .ok (.aload_n 0, 1) := by decide +kernel
theorem dX10_readRule_57 : decode cX10_readRule 57 = .ok (.iload_n 1, 1) := by decide +kernel
theorem dX10_readRule_58 : decode cX10_readRule 58 = .ok (.aload_n 0, 1) := by decide +kernel
theorem dX10_readRule_59 : decode cX10_readRule 59 = .ok (.getfield 172, 3) := by decide +kernel
theorem dX10_readRule_62 : decode cX10_readRule 62 = .ok (.invokevirtual 119, 3) := by decide +kernel
theorem dX10_readRule_65 : decode cX10_readRule 65 = .ok (.istore_n 2, 1) := by decide +kernel
theorem dX10_readRule_66 : decode cX10_readRule 66 = .ok (.aload_n 0, 1) := by decide +kernel
theorem dX10_readRule_67 : decode cX10_readRule 67 = .ok (.iconst 0, 1) := by decide +kernel
theorem dX10_readRule_68 : decode cX10_readRule 68 = .ok (.bipush 12, 2) := by decide +kernel
theorem dX10_readRule_70 : decode cX10_readRule 70 = .ok (.invokevirtual 196, 3) := by decide +kernel
theorem dX10_readRule_73 : decode cX10_readRule 73 = .ok (.istore_n 3, 1) := by decide +kernel
theorem dX10_readRule_74 : decode cX10_readRule 74 = .ok (.aload_n 0, 1) := by decide +kernel
theorem dX10_readRule_75 : decode cX10_readRule 75 = .ok (.aload_n 0, 1) := by decide +kernel
theorem dX10_readRule_76 : decode cX10_readRule 76 = .ok (.invokevirtual 214, 3) := by decide +kernel
theorem dX10_readRule_79 : decode cX10_readRule 79 = .ok (.iconst 3, 1) := by decide +kernel
theorem dX10_readRule_80 : decode cX10_readRule 80 = .ok (.if_icmp .ne 7, 3) := by decide +kernel
theorem dX10_readRule_83 : decode cX10_readRule 83 = .ok (.iconst 1, 1) := by decide +kernel
theorem dX10_readRule_84 : decode cX10_readRule 84 = .ok (.goto 4, 3) := by decide +kernel
theorem dX10_readRule_87 : decode cX10_readRule 87 = .ok (.iconst 0, 1) := by decide +kernel
theorem dX10_readRule_88 : decode cX10_readRule 88 = .ok (.iconst 1, 1) := by decide +kernel
theorem dX10_readRule_89 : decode cX10_readRule 89 = .ok (.invokevirtual 192, 3) := by decide +kernel
theorem dX10_readRule_92 : decode cX10_readRule 92 = .ok (.aload_n 0, 1) := by decide +kernel
theorem dX10_readRule_93 : decode cX10_readRule 93 = .ok (.getfield 175, 3) := by decide +kernel
theorem dX10_readRule_96 : decode cX10_readRule 96 = .ok (.ifCond .le 4, 3) := by decide +kernel
theorem dX10_readRule_99 : decode cX10_readRule 99 = .ok (.return_, 1) := by decide +kernel
theorem dX10_readRule_100 : decode cX10_readRule 100 = .ok (.aload_n 0, 1) := by decide +kernel
theorem dX10_readRule_101 : decode cX10_readRule 101 = .ok (.invokevirtual 185, 3) := by decide +kernel
theorem dX10_readRule_104 : decode cX10_readRule 104 = .ok (.iconst 0, 1) := by decide +kernel
theorem dX10_readRule_105 : decode cX10_readRule 105 = .ok (.istore 4, 2) := by decide +kernel
theorem dX10_readRule_107 : decode cX10_readRule 107 = .ok (.iload 4, 2) := by decide +kernel
theorem dX10_readRule_109 : decode cX10_readRule 109 = .ok (.bipush 12, 2) := by decide +kernel
theorem dX10_readRule_111 : decode cX10_readRule 111 = .ok (.if_icmp .ge 21, 3) := by decide +kernel
theorem dX10_readRule_114 : decode cX10_readRule 114 = .ok (.aload_n 0, 1) := by decide +kernel
theorem dX10_readRule_115 : decode cX10_readRule 115 = .ok (.getfield 7, 3) := by decide +kernel
theorem dX10_readRule_118 : decode cX10_readRule 118 = .ok (.iload_n 2, 1) := by decide +kernel
theorem dX10_readRule_119 : decode cX10_readRule 119 = .ok (.iload 4, 2) := by decide +kernel
theorem dX10_readRule_121 : decode cX10_readRule 121 = .ok (.invokestatic 130, 3) := by decide +kernel
theorem dX10_readRule_124 : decode cX10_readRule 124 = .ok (.iconst 0, 1) := by decide +kernel
theorem dX10_readRule_125 : decode cX10_readRule 125 = .ok (.iastore, 1) := by decide +kernel
theorem dX10_readRule_126 : decode cX10_readRule 126 = .ok (.iinc 4 1, 3) := by decide +kernel
theorem dX10_readRule_129 : decode cX10_readRule 129 = .ok (.goto (-22), 3) := by decide +kernel
theorem dX10_readRule_132 : decode cX10_readRule 132 = .ok (.iconst 0, 1) := by decide +kernel
theorem dX10_readRule_133 : decode cX10_readRule 133 = .ok (.istore 4, 2) := by decide +kernel
theorem dX10_readRule_135 : decode cX10_readRule 135 = .ok (.aload_n 0, 1) := by decide +kernel
theorem dX10_readRule_136 : decode cX10_readRule 136 = .ok (.invokevirtual 217, 3) := by decide +kernel
theorem dX10_readRule_139 : decode cX10_readRule 139 = .ok (.istore 5, 2) := by decide +kernel
theorem dX10_readRule_141 : decode cX10_readRule 141 = .ok (.iload 5, 2) := by decide +kernel
theorem dX10_readRule_143 : decode cX10_readRule 143 = .ok (.ifCond .eq 126, 3) := by decide +kernel
theorem dX10_readRule_146 : decode cX10_readRule 146 = .ok (.aload_n 0, 1) := by decide +kernel
theorem dX10_readRule_147 : decode cX10_readRule 147 = .ok (.bipush 11, 2) := by decide +kernel
theorem dX10_readRule_149 : decode cX10_readRule 149 = .ok (.invokevirtual 220, 3) := by decide +kernel
theorem dX10_readRule_152 : decode cX10_readRule 152 = .ok (.aload_n 0, 1) := by decide +kernel
theorem dX10_readRule_153 : decode cX10_readRule 153 = .ok (.getfield 175, 3) := by decide +kernel
theorem dX10_readRule_156 : decode cX10_readRule 156 = .ok (.ifCond .le 7, 3) := by decide +kernel
theorem dX10_readRule_159 : decode cX10_readRule 159 = .ok (.iconst 0, 1) := by decide +kernel
theorem dX10_readRule_160 : decode cX10_readRule 160 = .ok (.goto 15, 3) := by decide +kernel
theorem dX10_readRule_163 : decode cX10_readRule 163 = .ok (.aload_n 0, 1) := by decide +kernel
theorem dX10_readRule_164 : decode cX10_readRule 164 = .ok (.aload_n 0, 1) := by decide +kernel
theorem dX10_readRule_165 : decode cX10_readRule 165 = .ok (.getfield 211, 3) := by decide +kernel
theorem dX10_readRule_168 : decode cX10_readRule 168 = .ok (.aload_n 0, 1) := by decide +kernel
theorem dX10_readRule_169 : decode cX10_readRule 169 = .ok (.getfield 172, 3) := by decide +kernel
theorem dX10_readRule_172 : decode cX10_readRule 172 = .ok (.invokevirtual 108, 3) := by decide +kernel
theorem dX10_readRule_175 : decode cX10_readRule 175 = .ok (.istore 6, 2) := by decide +kernel
theorem dX10_readRule_177 : decode cX10_readRule 177 = .ok (.aload_n 0, 1) := by decide +kernel
theorem dX10_readRule_178 : decode cX10_readRule 178 = .ok (.iload 6, 2) := by decide +kernel
theorem dX10_readRule_180 : decode cX10_readRule 180 = .ok (.iconst (-1), 1) := by decide +kernel
theorem dX10_readRule_181 : decode cX10_readRule 181 = .ok (.if_icmp .eq 7, 3) := by decide +kernel
theorem dX10_readRule_184 : decode cX10_readRule 184 = .ok (.iconst 1, 1) := by decide +kernel
theorem dX10_readRule_185 : decode cX10_readRule 185 = .ok (.goto 4, 3) := by decide +kernel
theorem dX10_readRule_188 : decode cX10_readRule 188 = .ok (.iconst 0, 1) := by decide +kernel
theorem dX10_readRule_189 : decode cX10_readRule 189 = .ok (.iconst 4, 1) := by decide +kernel
theorem dX10_readRule_190 : decode cX10_readRule 190 = .ok (.invokevirtual 192, 3) := by decide +kernel
theorem dX10_readRule_193 : decode cX10_readRule 193 = .ok (.aload_n 0, 1) := by decide +kernel
theorem dX10_readRule_194 : decode cX10_readRule 194 = .ok (.aload_n 0, 1) := by decide +kernel
theorem dX10_readRule_195 : decode cX10_readRule 195 = .ok (.getfield 175, 3) := by decide +kernel
theorem dX10_readRule_198 : decode cX10_readRule 198 = .ok (.ifCond .gt 13, 3) := by decide +kernel
theorem dX10_readRule_201 : decode cX10_readRule 201 = .ok (.iload 4, 2) := by decide +kernel
theorem dX10_readRule_203 : decode cX10_readRule 203 = .ok (.iload 6, 2) := by decide +kernel
theorem dX10_readRule_205 : decode cX10_readRule 205 = .ok (.ishr, 1) := by decide +kernel
theorem dX10_readRule_206 : decode cX10_readRule 206 = .ok (.iconst 1, 1) := by decide +kernel
theorem dX10_readRule_207 : decode cX10_readRule 207 = .ok (.iand, 1) := by decide +kernel
theorem dX10_readRule_208 : decode cX10_readRule 208 = .ok (.ifCond .ne 7, 3) := by decide +kernel
theorem dX10_readRule_211 : decode cX10_readRule 211 = .ok (.iconst 1, 1) := by decide +kernel
theorem dX10_readRule_212 : decode cX10_readRule 212 = .ok (.goto 4, 3) := by decide +kernel
theorem dX10_readRule_215 : decode cX10_readRule 215 = .ok (.iconst 0, 1) := by decide +kernel
theorem dX10_readRule_216 : decode cX10_readRule 216 = .ok (.iconst 5, 1) := by decide +kernel
theorem dX10_readRule_217 : decode cX10_readRule 217 = .ok (.invokevirtual 192, 3) := by decide +kernel
theorem dX10_readRule_220 : decode cX10_readRule 220 = .ok (.aload_n 0, 1) := by decide +kernel
theorem dX10_readRule_221 : decode cX10_readRule 221 = .ok (.iconst 0, 1) := by decide +kernel
theorem dX10_readRule_222 : decode cX10_readRule 222 = .ok (.bipush 11, 2) := by decide +kernel
theorem dX10_readRule_224 : decode cX10_readRule 224 = .ok (.invokevirtual 196, 3) := by decide +kernel
theorem dX10_readRule_227 : decode cX10_readRule 227 = .ok (.istore 7, 2) := by decide +kernel
theorem dX10_readRule_229 : decode cX10_readRule 229 = .ok (.aload_n 0, 1) := by decide +kernel
theorem dX10_readRule_230 : decode cX10_readRule 230 = .ok (.getfield 175, 3) := by decide +kernel
theorem dX10_readRule_233 : decode cX10_readRule 233 = .ok (.ifCond .ne 27, 3) := by decide +kernel
theorem dX10_readRule_236 : decode cX10_readRule 236 = .ok (.aload_n 0, 1) := by decide +kernel
theorem dX10_readRule_237 : decode cX10_readRule 237 = .ok (.getfield 7, 3) := by decide +kernel
theorem dX10_readRule_240 : decode cX10_readRule 240 = .ok (.iload_n 2, 1) := by decide +kernel
theorem dX10_readRule_241 : decode cX10_readRule 241 = .ok (.iload 6, 2) := by decide +kernel
theorem dX10_readRule_243 : decode cX10_readRule 243 = .ok (.invokestatic 130, 3) := by decide +kernel
theorem dX10_readRule_246 : decode cX10_readRule 246 = .ok (.aload_n 0, 1) := by decide +kernel
theorem dX10_readRule_247 : decode cX10_readRule 247 = .ok (.getfield 208, 3) := by decide +kernel
theorem dX10_readRule_250 : decode cX10_readRule 250 = .ok (.iastore, 1) := by decide +kernel
theorem dX10_readRule_251 : decode cX10_readRule 251 = .ok (.iload 4, 2) := by decide +kernel
theorem dX10_readRule_253 : decode cX10_readRule 253 = .ok (.iconst 1, 1) := by decide +kernel
theorem dX10_readRule_254 : decode cX10_readRule 254 = .ok (.iload 6, 2) := by decide +kernel
theorem dX10_readRule_256 : decode cX10_readRule 256 = .ok (.ishl, 1) := by decide +kernel
theorem dX10_readRule_257 : decode cX10_readRule 257 = .ok (.ior, 1) := by decide +kernel
theorem dX10_readRule_258 : decode cX10_readRule 258 = .ok (.istore 4, 2) := by decide +kernel
theorem dX10_readRule_260 : decode cX10_readRule 260 = .ok (.aload_n 0, 1) := by decide +kernel
theorem dX10_readRule_261 : decode cX10_readRule 261 = .ok (.invokevirtual 223, 3) := by decide +kernel
theorem dX10_readRule_264 : decode cX10_readRule 264 = .ok (.istore 5, 2) := by decide +kernel
theorem dX10_readRule_266 : decode cX10_readRule 266 = .ok (.goto (-125), 3) := by decide +kernel
theorem dX10_readRule_269 : decode cX10_readRule 269 = .ok (.return_, 1) := by decide +kernel
theorem dX10_pointAt_0 : decode cX10_pointAt 0 = .ok (.iconst 0, 1) := by decide +kernel
theorem dX10_pointAt_1 : decode cX10_pointAt 1 = .ok (.istore_n 3, 1) := by decide +kernel
theorem dX10_pointAt_2 : decode cX10_pointAt 2 = .ok (.iload_n 3, 1) := by decide +kernel
theorem dX10_pointAt_3 : decode cX10_pointAt 3 = .ok (.aload_n 0, 1) := by decide +kernel
theorem dX10_pointAt_4 : decode cX10_pointAt 4 = .ok (.getfield 7, 3) := by decide +kernel
theorem dX10_pointAt_7 : decode cX10_pointAt 7 = .ok (.iconst 3, 1) := by decide +kernel
theorem dX10_pointAt_8 : decode cX10_pointAt 8 = .ok (.iaload, 1) := by decide +kernel
theorem dX10_pointAt_9 : decode cX10_pointAt 9 = .ok (.if_icmp .ge 39, 3) := by decide +kernel
theorem dX10_pointAt_12 : decode cX10_pointAt 12 = .ok (.aload_n 0, 1) := by decide +kernel
theorem dX10_pointAt_13 : decode cX10_pointAt 13 = .ok (.getfield 7, 3) := by decide +kernel
theorem dX10_pointAt_16 : decode cX10_pointAt 16 = .ok (.sipush 224, 3) := by decide +kernel
theorem dX10_pointAt_19 : decode cX10_pointAt 19 = .ok (.iload_n 3, 1) := by decide +kernel
theorem dX10_pointAt_20 : decode cX10_pointAt 20 = .ok (.iadd, 1) := by decide +kernel
theorem dX10_pointAt_21 : decode cX10_pointAt 21 = .ok (.iaload, 1) := by decide +kernel
theorem dX10_pointAt_22 : decode cX10_pointAt 22 = .ok (.iload_n 1, 1) := by decide +kernel
theorem dX10_pointAt_23 : decode cX10_pointAt 23 = .ok (.if_icmp .ne 19, 3) := by decide +kernel
theorem dX10_pointAt_26 : decode cX10_pointAt 26 = .ok (.aload_n 0, 1) := by decide +kernel
theorem dX10_pointAt_27 : decode cX10_pointAt 27 = .ok (.getfield 7, 3) := by decide +kernel
theorem dX10_pointAt_30 : decode cX10_pointAt 30 = .ok (.sipush 236, 3) := by decide +kernel
theorem dX10_pointAt_33 : decode cX10_pointAt 33 = .ok (.iload_n 3, 1) := by decide +kernel
theorem dX10_pointAt_34 : decode cX10_pointAt 34 = .ok (.iadd, 1) := by decide +kernel
theorem dX10_pointAt_35 : decode cX10_pointAt 35 = .ok (.iaload, 1) := by decide +kernel
theorem dX10_pointAt_36 : decode cX10_pointAt 36 = .ok (.iload_n 2, 1) := by decide +kernel
theorem dX10_pointAt_37 : decode cX10_pointAt 37 = .ok (.if_icmp .ne 5, 3) := by decide +kernel
theorem dX10_pointAt_40 : decode cX10_pointAt 40 = .ok (.iload_n 3, 1) := by decide +kernel
theorem dX10_pointAt_41 : decode cX10_pointAt 41 = .ok (.ireturn, 1) := by decide +kernel
theorem dX10_pointAt_42 : decode cX10_pointAt 42 = .ok (.iinc 3 1, 3) := by decide +kernel
theorem dX10_pointAt_45 : decode cX10_pointAt 45 = .ok (.goto (-43), 3) := by decide +kernel
theorem dX10_pointAt_48 : decode cX10_pointAt 48 = .ok (.iconst (-1), 1) := by decide +kernel
theorem dX10_pointAt_49 : decode cX10_pointAt 49 = .ok (.ireturn, 1) := by decide +kernel
theorem dX10_putsPoint_0 : decode cX10_putsPoint 0 = .ok (.aload_n 0, 1) := by decide +kernel
theorem dX10_putsPoint_1 : decode cX10_putsPoint 1 = .ok (.getfield 7, 3) := by decide +kernel
theorem dX10_putsPoint_4 : decode cX10_putsPoint 4 = .ok (.iconst 3, 1) := by decide +kernel
theorem dX10_putsPoint_5 : decode cX10_putsPoint 5 = .ok (.iaload, 1) := by decide +kernel
theorem dX10_putsPoint_6 : decode cX10_putsPoint 6 = .ok (.istore_n 3, 1) := by decide +kernel
theorem dX10_putsPoint_7 : decode cX10_putsPoint 7 = .ok (.aload_n 0, 1) := by decide +kernel
theorem dX10_putsPoint_8 : decode cX10_putsPoint 8 = .ok (.getfield 7, 3) := by decide +kernel
theorem dX10_putsPoint_11 : decode cX10_putsPoint 11 = .ok (.sipush 224, 3) := by decide +kernel
theorem dX10_putsPoint_14 : decode cX10_putsPoint 14 = .ok (.iload_n 3, 1) := by decide +kernel
theorem dX10_putsPoint_15 : decode cX10_putsPoint 15 = .ok (.iadd, 1) := by decide +kernel
theorem dX10_putsPoint_16 : decode cX10_putsPoint 16 = .ok (.iload_n 1, 1) := by decide +kernel
theorem dX10_putsPoint_17 : decode cX10_putsPoint 17 = .ok (.iastore, 1) := by decide +kernel
theorem dX10_putsPoint_18 : decode cX10_putsPoint 18 = .ok (.aload_n 0, 1) := by decide +kernel
theorem dX10_putsPoint_19 : decode cX10_putsPoint 19 = .ok (.getfield 7, 3) := by decide +kernel
theorem dX10_putsPoint_22 : decode cX10_putsPoint 22 = .ok (.sipush 236, 3) := by decide +kernel
theorem dX10_putsPoint_25 : decode cX10_putsPoint 25 = .ok (.iload_n 3, 1) := by decide +kernel
theorem dX10_putsPoint_26 : decode cX10_putsPoint 26 = .ok (.iadd, 1) := by decide +kernel
theorem dX10_putsPoint_27 : decode cX10_putsPoint 27 = .ok (.iload_n 2, 1) := by decide +kernel
theorem dX10_putsPoint_28 : decode cX10_putsPoint 28 = .ok (.iastore, 1) := by decide +kernel
theorem dX10_putsPoint_29 : decode cX10_putsPoint 29 = .ok (.aload_n 0, 1) := by decide +kernel
theorem dX10_putsPoint_30 : decode cX10_putsPoint 30 = .ok (.getfield 7, 3) := by decide +kernel
theorem dX10_putsPoint_33 : decode cX10_putsPoint 33 = .ok (.iconst 3, 1) := by decide +kernel
theorem dX10_putsPoint_34 : decode cX10_putsPoint 34 = .ok (.dup2, 1) := by decide +kernel
theorem dX10_putsPoint_35 : decode cX10_putsPoint 35 = .ok (.iaload, 1) := by decide +kernel
theorem dX10_putsPoint_36 : decode cX10_putsPoint 36 = .ok (.iconst 1, 1) := by decide +kernel
theorem dX10_putsPoint_37 : decode cX10_putsPoint 37 = .ok (.iadd, 1) := by decide +kernel
theorem dX10_putsPoint_38 : decode cX10_putsPoint 38 = .ok (.iastore, 1) := by decide +kernel
theorem dX10_putsPoint_39 : decode cX10_putsPoint 39 = .ok (.iload_n 3, 1) := by decide +kernel
theorem dX10_putsPoint_40 : decode cX10_putsPoint 40 = .ok (.ireturn, 1) := by decide +kernel
theorem dX10_readPoint_0 : decode cX10_readPoint 0 = .ok (.aload_n 0, 1) := by decide +kernel
theorem dX10_readPoint_1 : decode cX10_readPoint 1 = .ok (.iconst 0, 1) := by decide +kernel
theorem dX10_readPoint_2 : decode cX10_readPoint 2 = .ok (.aload_n 0, 1) := by decide +kernel
theorem dX10_readPoint_3 : decode cX10_readPoint 3 = .ok (.invokevirtual 97, 3) := by decide +kernel
theorem dX10_readPoint_6 : decode cX10_readPoint 6 = .ok (.iconst 1, 1) := by decide +kernel
theorem dX10_readPoint_7 : decode cX10_readPoint 7 = .ok (.isub, 1) := by decide +kernel
theorem dX10_readPoint_8 : decode cX10_readPoint 8 = .ok (.invokevirtual 196, 3) := by decide +kernel
theorem dX10_readPoint_11 : decode cX10_readPoint 11 = .ok (.istore_n 1, 1) := by decide +kernel
theorem dX10_readPoint_12 : decode cX10_readPoint 12 = .ok (.aload_n 0, 1) := by decide +kernel
theorem dX10_readPoint_13 : decode cX10_readPoint 13 = .ok (.iconst 0, 1) := by decide +kernel
theorem dX10_readPoint_14 : decode cX10_readPoint 14 = .ok (.aload_n 0, 1) := by decide +kernel
theorem dX10_readPoint_15 : decode cX10_readPoint 15 = .ok (.invokevirtual 97, 3) := by decide +kernel
theorem dX10_readPoint_18 : decode cX10_readPoint 18 = .ok (.iconst 1, 1) := by decide +kernel
theorem dX10_readPoint_19 : decode cX10_readPoint 19 = .ok (.isub, 1) := by decide +kernel
theorem dX10_readPoint_20 : decode cX10_readPoint 20 = .ok (.invokevirtual 182, 3) := by decide +kernel
theorem dX10_readPoint_23 : decode cX10_readPoint 23 = .ok (.aload_n 0, 1) := by decide +kernel
theorem dX10_readPoint_24 : decode cX10_readPoint 24 = .ok (.aload_n 0, 1) := by decide +kernel
theorem dX10_readPoint_25 : decode cX10_readPoint 25 = .ok (.getfield 175, 3) := by decide +kernel
theorem dX10_readPoint_28 : decode cX10_readPoint 28 = .ok (.ifCond .gt 16, 3) := by decide +kernel
theorem dX10_readPoint_31 : decode cX10_readPoint 31 = .ok (.aload_n 0, 1) := by decide +kernel
theorem dX10_readPoint_32 : decode cX10_readPoint 32 = .ok (.iload_n 1, 1) := by decide +kernel
theorem dX10_readPoint_33 : decode cX10_readPoint 33 = .ok (.aload_n 0, 1) := by decide +kernel
theorem dX10_readPoint_34 : decode cX10_readPoint 34 = .ok (.getfield 172, 3) := by decide +kernel
theorem dX10_readPoint_37 : decode cX10_readPoint 37 = .ok (.invokevirtual 226, 3) := by decide +kernel
theorem dX10_readPoint_40 : decode cX10_readPoint 40 = .ok (.iconst (-1), 1) := by decide +kernel
theorem dX10_readPoint_41 : decode cX10_readPoint 41 = .ok (.if_icmp .ne 7, 3) := by decide +kernel
theorem dX10_readPoint_44 : decode cX10_readPoint 44 = .ok (.iconst 1, 1) := by decide +kernel
theorem dX10_readPoint_45 : decode cX10_readPoint 45 = .ok (.goto 4, 3) := by decide +kernel
theorem dX10_readPoint_48 : decode cX10_readPoint 48 = .ok (.iconst 0, 1) := by decide +kernel
theorem dX10_readPoint_49 : decode cX10_readPoint 49 = .ok (.iconst 5, 1) := by decide +kernel
theorem dX10_readPoint_50 : decode cX10_readPoint 50 = .ok (.invokevirtual 192, 3) := by decide +kernel
theorem dX10_readPoint_53 : decode cX10_readPoint 53 = .ok (.aload_n 0, 1) := by decide +kernel
theorem dX10_readPoint_54 : decode cX10_readPoint 54 = .ok (.iconst 0, 1) := by decide +kernel
theorem dX10_readPoint_55 : decode cX10_readPoint 55 = .ok (.aload_n 0, 1) := by decide +kernel
theorem dX10_readPoint_56 : decode cX10_readPoint 56 = .ok (.invokevirtual 97, 3) := by decide +kernel
theorem dX10_readPoint_59 : decode cX10_readPoint 59 = .ok (.iconst 1, 1) := by decide +kernel
theorem dX10_readPoint_60 : decode cX10_readPoint 60 = .ok (.isub, 1) := by decide +kernel
theorem dX10_readPoint_61 : decode cX10_readPoint 61 = .ok (.invokevirtual 196, 3) := by decide +kernel
theorem dX10_readPoint_64 : decode cX10_readPoint 64 = .ok (.istore_n 2, 1) := by decide +kernel
theorem dX10_readPoint_65 : decode cX10_readPoint 65 = .ok (.aload_n 0, 1) := by decide +kernel
theorem dX10_readPoint_66 : decode cX10_readPoint 66 = .ok (.getfield 175, 3) := by decide +kernel
theorem dX10_readPoint_69 : decode cX10_readPoint 69 = .ok (.ifCond .ne 10, 3) := by decide +kernel
theorem dX10_readPoint_72 : decode cX10_readPoint 72 = .ok (.aload_n 0, 1) := by decide +kernel
theorem dX10_readPoint_73 : decode cX10_readPoint 73 = .ok (.iload_n 1, 1) := by decide +kernel
theorem dX10_readPoint_74 : decode cX10_readPoint 74 = .ok (.iload_n 2, 1) := by decide +kernel
theorem dX10_readPoint_75 : decode cX10_readPoint 75 = .ok (.invokevirtual 229, 3) := by decide +kernel
theorem dX10_readPoint_78 : decode cX10_readPoint 78 = .ok (.istore_n 3, 1) := by decide +kernel
theorem dX10_readPoint_79 : decode cX10_readPoint 79 = .ok (.return_, 1) := by decide +kernel
theorem dX10_readStatement_0 : decode cX10_readStatement 0 = .ok (.aload_n 0, 1) := by decide +kernel
theorem dX10_readStatement_1 : decode cX10_readStatement 1 = .ok (.invokevirtual 214, 3) := by decide +kernel
theorem dX10_readStatement_4 : decode cX10_readStatement 4 = .ok (.istore_n 2, 1) := by decide +kernel
theorem dX10_readStatement_5 : decode cX10_readStatement 5 = .ok (.aload_n 0, 1) := by decide +kernel
theorem dX10_readStatement_6 : decode cX10_readStatement 6 = .ok (.iload_n 2, 1) := by decide +kernel
theorem dX10_readStatement_7 : decode cX10_readStatement 7 = .ok (.iconst (-1), 1) := by decide +kernel
theorem dX10_readStatement_8 : decode cX10_readStatement 8 = .ok (.if_icmp .eq 20, 3) := by decide +kernel
theorem dX10_readStatement_11 : decode cX10_readStatement 11 = .ok (.iload_n 2, 1) := by decide +kernel
theorem dX10_readStatement_12 : decode cX10_readStatement 12 = .ok (.iconst 3, 1) := by decide +kernel
theorem dX10_readStatement_13 : decode cX10_readStatement 13 = .ok (.if_icmp .eq 15, 3) := by decide +kernel
theorem dX10_readStatement_16 : decode cX10_readStatement 16 = .ok (.iload_n 2, 1) := by decide +kernel
theorem dX10_readStatement_17 : decode cX10_readStatement 17 = .ok (.ifCond .ne 7, 3) := by decide +kernel
theorem dX10_readStatement_20 : decode cX10_readStatement 20 = .ok (.iload_n 1, 1) := by decide +kernel
theorem dX10_readStatement_21 : decode cX10_readStatement 21 = .ok (.ifCond .eq 7, 3) := by decide +kernel
theorem dX10_readStatement_24 : decode cX10_readStatement 24 = .ok (.iconst 1, 1) := by decide +kernel
theorem dX10_readStatement_25 : decode cX10_readStatement 25 = .ok (.goto 4, 3) := by decide +kernel
theorem dX10_readStatement_28 : decode cX10_readStatement 28 = .ok (.iconst 0, 1) := by decide +kernel
theorem dX10_readStatement_29 : decode cX10_readStatement 29 = .ok (.iconst 1, 1) := by decide +kernel
theorem dX10_readStatement_30 : decode cX10_readStatement 30 = .ok (.invokevirtual 192, 3) := by decide +kernel
theorem dX10_readStatement_33 : decode cX10_readStatement 33 = .ok (.aload_n 0, 1) := by decide +kernel
theorem dX10_readStatement_34 : decode cX10_readStatement 34 = .ok (.iload_n 2, 1) := by decide +kernel
theorem dX10_readStatement_35 : decode cX10_readStatement 35 = .ok (.iconst 1, 1) := by decide +kernel
theorem dX10_readStatement_36 : decode cX10_readStatement 36 = .ok (.if_icmp .ne 12, 3) := by decide +kernel
theorem dX10_readStatement_39 : decode cX10_readStatement 39 = .ok (.aload_n 0, 1) := by decide +kernel
theorem dX10_readStatement_40 : decode cX10_readStatement 40 = .ok (.invokevirtual 105, 3) := by decide +kernel
theorem dX10_readStatement_43 : decode cX10_readStatement 43 = .ok (.bipush 12, 2) := by decide +kernel
theorem dX10_readStatement_45 : decode cX10_readStatement 45 = .ok (.if_icmp .ge 7, 3) := by decide +kernel
theorem dX10_readStatement_48 : decode cX10_readStatement 48 = .ok (.iconst 1, 1) := by decide +kernel
theorem dX10_readStatement_49 : decode cX10_readStatement 49 = .ok (.goto 4, 3) := by decide +kernel
theorem dX10_readStatement_52 : decode cX10_readStatement 52 = .ok (.iconst 0, 1) := by decide +kernel
theorem dX10_readStatement_53 : decode cX10_readStatement 53 = .ok (.iconst 3, 1) := by decide +kernel
theorem dX10_readStatement_54 : decode cX10_readStatement 54 = .ok (.invokevirtual 192, 3) := by decide +kernel
theorem dX10_readStatement_57 : decode cX10_readStatement 57 = .ok (.aload_n 0, 1) := by decide +kernel
theorem dX10_readStatement_58 : decode cX10_readStatement 58 = .ok (.iload_n 2, 1) := by decide +kernel
theorem dX10_readStatement_59 : decode cX10_readStatement 59 = .ok (.iconst 4, 1) := by decide +kernel
theorem dX10_readStatement_60 : decode cX10_readStatement 60 = .ok (.if_icmp .ne 14, 3) := by decide +kernel
theorem dX10_readStatement_63 : decode cX10_readStatement 63 = .ok (.aload_n 0, 1) := by decide +kernel
theorem dX10_readStatement_64 : decode cX10_readStatement 64 = .ok (.getfield 7, 3) := by decide +kernel
theorem dX10_readStatement_67 : decode cX10_readStatement 67 = .ok (.iconst 3, 1) := by decide +kernel
theorem dX10_readStatement_68 : decode cX10_readStatement 68 = .ok (.iaload, 1) := by decide +kernel
theorem dX10_readStatement_69 : decode cX10_readStatement 69 = .ok (.bipush 12, 2) := by decide +kernel
theorem dX10_readStatement_71 : decode cX10_readStatement 71 = .ok (.if_icmp .ge 7, 3) := by decide +kernel
theorem dX10_readStatement_74 : decode cX10_readStatement 74 = .ok (.iconst 1, 1) := by decide +kernel
theorem dX10_readStatement_75 : decode cX10_readStatement 75 = .ok (.goto 4, 3) := by decide +kernel
theorem dX10_readStatement_78 : decode cX10_readStatement 78 = .ok (.iconst 0, 1) := by decide +kernel
theorem dX10_readStatement_79 : decode cX10_readStatement 79 = .ok (.iconst 3, 1) := by decide +kernel
theorem dX10_readStatement_80 : decode cX10_readStatement 80 = .ok (.invokevirtual 192, 3) := by decide +kernel
theorem dX10_readStatement_83 : decode cX10_readStatement 83 = .ok (.aload_n 0, 1) := by decide +kernel
theorem dX10_readStatement_84 : decode cX10_readStatement 84 = .ok (.getfield 175, 3) := by decide +kernel
theorem dX10_readStatement_87 : decode cX10_readStatement 87 = .ok (.ifCond .le 4, 3) := by decide +kernel
theorem dX10_readStatement_90 : decode cX10_readStatement 90 = .ok (.return_, 1) := by decide +kernel
theorem dX10_readStatement_91 : decode cX10_readStatement 91 = .ok (.aload_n 0, 1) := by decide +kernel
theorem dX10_readStatement_92 : decode cX10_readStatement 92 = .ok (.invokevirtual 185, 3) := by decide +kernel
theorem dX10_readStatement_95 : decode cX10_readStatement 95 = .ok (.iload_n 2, 1) := by decide +kernel
theorem dX10_readStatement_96 : decode cX10_readStatement 96 = .ok (.tableswitch 49 0 2 #[28, 35, 42], 28) := by decide +kernel
theorem dX10_readStatement_124 : decode cX10_readStatement 124 = .ok (.aload_n 0, 1) := by decide +kernel
theorem dX10_readStatement_125 : decode cX10_readStatement 125 = .ok (.invokevirtual 232, 3) := by decide +kernel
theorem dX10_readStatement_128 : decode cX10_readStatement 128 = .ok (.goto 21, 3) := by decide +kernel
theorem dX10_readStatement_131 : decode cX10_readStatement 131 = .ok (.aload_n 0, 1) := by decide +kernel
theorem dX10_readStatement_132 : decode cX10_readStatement 132 = .ok (.invokevirtual 235, 3) := by decide +kernel
theorem dX10_readStatement_135 : decode cX10_readStatement 135 = .ok (.goto 14, 3) := by decide +kernel
theorem dX10_readStatement_138 : decode cX10_readStatement 138 = .ok (.aload_n 0, 1) := by decide +kernel
theorem dX10_readStatement_139 : decode cX10_readStatement 139 = .ok (.invokevirtual 238, 3) := by decide +kernel
theorem dX10_readStatement_142 : decode cX10_readStatement 142 = .ok (.goto 7, 3) := by decide +kernel
theorem dX10_readStatement_145 : decode cX10_readStatement 145 = .ok (.aload_n 0, 1) := by decide +kernel
theorem dX10_readStatement_146 : decode cX10_readStatement 146 = .ok (.invokevirtual 241, 3) := by decide +kernel
theorem dX10_readStatement_149 : decode cX10_readStatement 149 = .ok (.aload_n 0, 1) := by decide +kernel
theorem dX10_readStatement_150 : decode cX10_readStatement 150 = .ok (.aload_n 0, 1) := by decide +kernel
theorem dX10_readStatement_151 : decode cX10_readStatement 151 = .ok (.getfield 169, 3) := by decide +kernel
theorem dX10_readStatement_154 : decode cX10_readStatement 154 = .ok (.iconst 3, 1) := by decide +kernel
theorem dX10_readStatement_155 : decode cX10_readStatement 155 = .ok (.if_icmp .ne 7, 3) := by decide +kernel
theorem dX10_readStatement_158 : decode cX10_readStatement 158 = .ok (.iconst 1, 1) := by decide +kernel
theorem dX10_readStatement_159 : decode cX10_readStatement 159 = .ok (.goto 4, 3) := by decide +kernel
theorem dX10_readStatement_162 : decode cX10_readStatement 162 = .ok (.iconst 0, 1) := by decide +kernel
theorem dX10_readStatement_163 : decode cX10_readStatement 163 = .ok (.iconst 1, 1) := by decide +kernel
theorem dX10_readStatement_164 : decode cX10_readStatement 164 = .ok (.invokevirtual 192, 3) := by decide +kernel
theorem dX10_readStatement_167 : decode cX10_readStatement 167 = .ok (.aload_n 0, 1) := by decide +kernel
theorem dX10_readStatement_168 : decode cX10_readStatement 168 = .ok (.getfield 175, 3) := by decide +kernel
theorem dX10_readStatement_171 : decode cX10_readStatement 171 = .ok (.ifCond .ne 7, 3) := by decide +kernel
theorem dX10_readStatement_174 : decode cX10_readStatement 174 = .ok (.aload_n 0, 1) := by decide +kernel
theorem dX10_readStatement_175 : decode cX10_readStatement 175 = .ok (.invokevirtual 185, 3) := by decide +kernel
theorem dX10_readStatement_178 : decode cX10_readStatement 178 = .ok (.return_, 1) := by decide +kernel
theorem dX10_opensText_0 : decode cX10_opensText 0 = .ok (.aload_n 0, 1) := by decide +kernel
theorem dX10_opensText_1 : decode cX10_opensText 1 = .ok (.iconst 0, 1) := by decide +kernel
theorem dX10_opensText_2 : decode cX10_opensText 2 = .ok (.putfield 149, 3) := by decide +kernel
theorem dX10_opensText_5 : decode cX10_opensText 5 = .ok (.aload_n 0, 1) := by decide +kernel
theorem dX10_opensText_6 : decode cX10_opensText 6 = .ok (.iconst 0, 1) := by decide +kernel
theorem dX10_opensText_7 : decode cX10_opensText 7 = .ok (.putfield 175, 3) := by decide +kernel
theorem dX10_opensText_10 : decode cX10_opensText 10 = .ok (.aload_n 0, 1) := by decide +kernel
theorem dX10_opensText_11 : decode cX10_opensText 11 = .ok (.iconst (-1), 1) := by decide +kernel
theorem dX10_opensText_12 : decode cX10_opensText 12 = .ok (.putfield 36, 3) := by decide +kernel
theorem dX10_opensText_15 : decode cX10_opensText 15 = .ok (.aload_n 0, 1) := by decide +kernel
theorem dX10_opensText_16 : decode cX10_opensText 16 = .ok (.invokevirtual 185, 3) := by decide +kernel
theorem dX10_opensText_19 : decode cX10_opensText 19 = .ok (.return_, 1) := by decide +kernel
theorem dX10_load_0 : decode cX10_load 0 = .ok (.aload_n 0, 1) := by decide +kernel
theorem dX10_load_1 : decode cX10_load 1 = .ok (.getfield 7, 3) := by decide +kernel
theorem dX10_load_4 : decode cX10_load 4 = .ok (.iconst 0, 1) := by decide +kernel
theorem dX10_load_5 : decode cX10_load 5 = .ok (.aload_n 0, 1) := by decide +kernel
theorem dX10_load_6 : decode cX10_load 6 = .ok (.getfield 13, 3) := by decide +kernel
theorem dX10_load_9 : decode cX10_load 9 = .ok (.iconst 0, 1) := by decide +kernel
theorem dX10_load_10 : decode cX10_load 10 = .ok (.invokestatic 136, 3) := by decide +kernel
theorem dX10_load_13 : decode cX10_load 13 = .ok (.aload_n 0, 1) := by decide +kernel
theorem dX10_load_14 : decode cX10_load 14 = .ok (.invokevirtual 88, 3) := by decide +kernel
theorem dX10_load_17 : decode cX10_load 17 = .ok (.aload_n 0, 1) := by decide +kernel
theorem dX10_load_18 : decode cX10_load 18 = .ok (.invokevirtual 244, 3) := by decide +kernel
theorem dX10_load_21 : decode cX10_load 21 = .ok (.iconst 1, 1) := by decide +kernel
theorem dX10_load_22 : decode cX10_load 22 = .ok (.istore_n 1, 1) := by decide +kernel
theorem dX10_load_23 : decode cX10_load 23 = .ok (.aload_n 0, 1) := by decide +kernel
theorem dX10_load_24 : decode cX10_load 24 = .ok (.getfield 175, 3) := by decide +kernel
theorem dX10_load_27 : decode cX10_load 27 = .ok (.ifCond .ne 20, 3) := by decide +kernel
theorem dX10_load_30 : decode cX10_load 30 = .ok (.aload_n 0, 1) := by decide +kernel
theorem dX10_load_31 : decode cX10_load 31 = .ok (.getfield 169, 3) := by decide +kernel
theorem dX10_load_34 : decode cX10_load 34 = .ok (.ifCond .eq 13, 3) := by decide +kernel
theorem dX10_load_37 : decode cX10_load 37 = .ok (.aload_n 0, 1) := by decide +kernel
theorem dX10_load_38 : decode cX10_load 38 = .ok (.iload_n 1, 1) := by decide +kernel
theorem dX10_load_39 : decode cX10_load 39 = .ok (.invokevirtual 247, 3) := by decide +kernel
theorem dX10_load_42 : decode cX10_load 42 = .ok (.iconst 0, 1) := by decide +kernel
theorem dX10_load_43 : decode cX10_load 43 = .ok (.istore_n 1, 1) := by decide +kernel
theorem dX10_load_44 : decode cX10_load 44 = .ok (.goto (-21), 3) := by decide +kernel
theorem dX10_load_47 : decode cX10_load 47 = .ok (.aload_n 0, 1) := by decide +kernel
theorem dX10_load_48 : decode cX10_load 48 = .ok (.iconst 0, 1) := by decide +kernel
theorem dX10_load_49 : decode cX10_load 49 = .ok (.putfield 146, 3) := by decide +kernel
theorem dX10_load_52 : decode cX10_load 52 = .ok (.aload_n 0, 1) := by decide +kernel
theorem dX10_load_53 : decode cX10_load 53 = .ok (.iconst 0, 1) := by decide +kernel
theorem dX10_load_54 : decode cX10_load 54 = .ok (.putfield 91, 3) := by decide +kernel
theorem dX10_load_57 : decode cX10_load 57 = .ok (.aload_n 0, 1) := by decide +kernel
theorem dX10_load_58 : decode cX10_load 58 = .ok (.getfield 175, 3) := by decide +kernel
theorem dX10_load_61 : decode cX10_load 61 = .ok (.ifCond .le 18, 3) := by decide +kernel
theorem dX10_load_64 : decode cX10_load 64 = .ok (.aload_n 0, 1) := by decide +kernel
theorem dX10_load_65 : decode cX10_load 65 = .ok (.getfield 13, 3) := by decide +kernel
theorem dX10_load_68 : decode cX10_load 68 = .ok (.iconst 0, 1) := by decide +kernel
theorem dX10_load_69 : decode cX10_load 69 = .ok (.aload_n 0, 1) := by decide +kernel
theorem dX10_load_70 : decode cX10_load 70 = .ok (.getfield 7, 3) := by decide +kernel
theorem dX10_load_73 : decode cX10_load 73 = .ok (.iconst 0, 1) := by decide +kernel
theorem dX10_load_74 : decode cX10_load 74 = .ok (.invokestatic 136, 3) := by decide +kernel
theorem dX10_load_77 : decode cX10_load 77 = .ok (.iconst (-1), 1) := by decide +kernel
theorem dX10_load_78 : decode cX10_load 78 = .ok (.ireturn, 1) := by decide +kernel
theorem dX10_load_79 : decode cX10_load 79 = .ok (.aload_n 0, 1) := by decide +kernel
theorem dX10_load_80 : decode cX10_load 80 = .ok (.iconst 0, 1) := by decide +kernel
theorem dX10_load_81 : decode cX10_load 81 = .ok (.putfield 251, 3) := by decide +kernel
theorem dX10_load_84 : decode cX10_load 84 = .ok (.iconst 0, 1) := by decide +kernel
theorem dX10_load_85 : decode cX10_load 85 = .ok (.istore_n 2, 1) := by decide +kernel
theorem dX10_load_86 : decode cX10_load 86 = .ok (.iload_n 2, 1) := by decide +kernel
theorem dX10_load_87 : decode cX10_load 87 = .ok (.bipush 6, 2) := by decide +kernel
theorem dX10_load_89 : decode cX10_load 89 = .ok (.if_icmp .ge 16, 3) := by decide +kernel
theorem dX10_load_92 : decode cX10_load 92 = .ok (.aload_n 0, 1) := by decide +kernel
theorem dX10_load_93 : decode cX10_load 93 = .ok (.getfield 29, 3) := by decide +kernel
theorem dX10_load_96 : decode cX10_load 96 = .ok (.iload_n 2, 1) := by decide +kernel
theorem dX10_load_97 : decode cX10_load 97 = .ok (.iconst 0, 1) := by decide +kernel
theorem dX10_load_98 : decode cX10_load 98 = .ok (.iastore, 1) := by decide +kernel
theorem dX10_load_99 : decode cX10_load 99 = .ok (.iinc 2 1, 3) := by decide +kernel
theorem dX10_load_102 : decode cX10_load 102 = .ok (.goto (-16), 3) := by decide +kernel
theorem dX10_load_105 : decode cX10_load 105 = .ok (.aload_n 0, 1) := by decide +kernel
theorem dX10_load_106 : decode cX10_load 106 = .ok (.invokevirtual 105, 3) := by decide +kernel
theorem dX10_load_109 : decode cX10_load 109 = .ok (.ireturn, 1) := by decide +kernel
theorem dX10_errorCode_0 : decode cX10_errorCode 0 = .ok (.aload_n 0, 1) := by decide +kernel
theorem dX10_errorCode_1 : decode cX10_errorCode 1 = .ok (.iconst 0, 1) := by decide +kernel
theorem dX10_errorCode_2 : decode cX10_errorCode 2 = .ok (.putfield 91, 3) := by decide +kernel
theorem dX10_errorCode_5 : decode cX10_errorCode 5 = .ok (.aload_n 0, 1) := by decide +kernel
theorem dX10_errorCode_6 : decode cX10_errorCode 6 = .ok (.getfield 175, 3) := by decide +kernel
theorem dX10_errorCode_9 : decode cX10_errorCode 9 = .ok (.ireturn, 1) := by decide +kernel
theorem dX10_errorPosition_0 : decode cX10_errorPosition 0 = .ok (.aload_n 0, 1) := by decide +kernel
theorem dX10_errorPosition_1 : decode cX10_errorPosition 1 = .ok (.iconst 0, 1) := by decide +kernel
theorem dX10_errorPosition_2 : decode cX10_errorPosition 2 = .ok (.putfield 91, 3) := by decide +kernel
theorem dX10_errorPosition_5 : decode cX10_errorPosition 5 = .ok (.aload_n 0, 1) := by decide +kernel
theorem dX10_errorPosition_6 : decode cX10_errorPosition 6 = .ok (.getfield 36, 3) := by decide +kernel
theorem dX10_errorPosition_9 : decode cX10_errorPosition 9 = .ok (.ireturn, 1) := by decide +kernel
theorem dX10_cell_0 : decode cX10_cell 0 = .ok (.bipush 12, 2) := by decide +kernel
theorem dX10_cell_2 : decode cX10_cell 2 = .ok (.iload_n 0, 1) := by decide +kernel
theorem dX10_cell_3 : decode cX10_cell 3 = .ok (.imul, 1) := by decide +kernel
theorem dX10_cell_4 : decode cX10_cell 4 = .ok (.iload_n 1, 1) := by decide +kernel
theorem dX10_cell_5 : decode cX10_cell 5 = .ok (.iadd, 1) := by decide +kernel
theorem dX10_cell_6 : decode cX10_cell 6 = .ok (.ireturn, 1) := by decide +kernel
theorem dX10_laysTable_0 : decode cX10_laysTable 0 = .ok (.iconst 0, 1) := by decide +kernel
theorem dX10_laysTable_1 : decode cX10_laysTable 1 = .ok (.istore 4, 2) := by decide +kernel
theorem dX10_laysTable_3 : decode cX10_laysTable 3 = .ok (.iload 4, 2) := by decide +kernel
theorem dX10_laysTable_5 : decode cX10_laysTable 5 = .ok (.aload_n 0, 1) := by decide +kernel
theorem dX10_laysTable_6 : decode cX10_laysTable 6 = .ok (.invokevirtual 105, 3) := by decide +kernel
theorem dX10_laysTable_9 : decode cX10_laysTable 9 = .ok (.if_icmp .ge 112, 3) := by decide +kernel
theorem dX10_laysTable_12 : decode cX10_laysTable 12 = .ok (.aload_n 0, 1) := by decide +kernel
theorem dX10_laysTable_13 : decode cX10_laysTable 13 = .ok (.getfield 7, 3) := by decide +kernel
theorem dX10_laysTable_16 : decode cX10_laysTable 16 = .ok (.iconst 4, 1) := by decide +kernel
theorem dX10_laysTable_17 : decode cX10_laysTable 17 = .ok (.iload 4, 2) := by decide +kernel
theorem dX10_laysTable_19 : decode cX10_laysTable 19 = .ok (.iadd, 1) := by decide +kernel
theorem dX10_laysTable_20 : decode cX10_laysTable 20 = .ok (.iaload, 1) := by decide +kernel
theorem dX10_laysTable_21 : decode cX10_laysTable 21 = .ok (.iload_n 2, 1) := by decide +kernel
theorem dX10_laysTable_22 : decode cX10_laysTable 22 = .ok (.iadd, 1) := by decide +kernel
theorem dX10_laysTable_23 : decode cX10_laysTable 23 = .ok (.istore 5, 2) := by decide +kernel
theorem dX10_laysTable_25 : decode cX10_laysTable 25 = .ok (.aload_n 0, 1) := by decide +kernel
theorem dX10_laysTable_26 : decode cX10_laysTable 26 = .ok (.getfield 7, 3) := by decide +kernel
theorem dX10_laysTable_29 : decode cX10_laysTable 29 = .ok (.bipush 16, 2) := by decide +kernel
theorem dX10_laysTable_31 : decode cX10_laysTable 31 = .ok (.iload 4, 2) := by decide +kernel
theorem dX10_laysTable_33 : decode cX10_laysTable 33 = .ok (.iadd, 1) := by decide +kernel
theorem dX10_laysTable_34 : decode cX10_laysTable 34 = .ok (.iaload, 1) := by decide +kernel
theorem dX10_laysTable_35 : decode cX10_laysTable 35 = .ok (.iload_n 3, 1) := by decide +kernel
theorem dX10_laysTable_36 : decode cX10_laysTable 36 = .ok (.iadd, 1) := by decide +kernel
theorem dX10_laysTable_37 : decode cX10_laysTable 37 = .ok (.istore 6, 2) := by decide +kernel
theorem dX10_laysTable_39 : decode cX10_laysTable 39 = .ok (.aload_n 0, 1) := by decide +kernel
theorem dX10_laysTable_40 : decode cX10_laysTable 40 = .ok (.iload 5, 2) := by decide +kernel
theorem dX10_laysTable_42 : decode cX10_laysTable 42 = .ok (.iload 6, 2) := by decide +kernel
theorem dX10_laysTable_44 : decode cX10_laysTable 44 = .ok (.invokevirtual 108, 3) := by decide +kernel
theorem dX10_laysTable_47 : decode cX10_laysTable 47 = .ok (.istore 7, 2) := by decide +kernel
theorem dX10_laysTable_49 : decode cX10_laysTable 49 = .ok (.iconst 0, 1) := by decide +kernel
theorem dX10_laysTable_50 : decode cX10_laysTable 50 = .ok (.istore 8, 2) := by decide +kernel
theorem dX10_laysTable_52 : decode cX10_laysTable 52 = .ok (.iload 8, 2) := by decide +kernel
theorem dX10_laysTable_54 : decode cX10_laysTable 54 = .ok (.aload_n 0, 1) := by decide +kernel
theorem dX10_laysTable_55 : decode cX10_laysTable 55 = .ok (.invokevirtual 105, 3) := by decide +kernel
theorem dX10_laysTable_58 : decode cX10_laysTable 58 = .ok (.if_icmp .ge 57, 3) := by decide +kernel
theorem dX10_laysTable_61 : decode cX10_laysTable 61 = .ok (.aload_n 1, 1) := by decide +kernel
theorem dX10_laysTable_62 : decode cX10_laysTable 62 = .ok (.iload 8, 2) := by decide +kernel
theorem dX10_laysTable_64 : decode cX10_laysTable 64 = .ok (.iload 4, 2) := by decide +kernel
theorem dX10_laysTable_66 : decode cX10_laysTable 66 = .ok (.invokestatic 254, 3) := by decide +kernel
theorem dX10_laysTable_69 : decode cX10_laysTable 69 = .ok (.iload 7, 2) := by decide +kernel
theorem dX10_laysTable_71 : decode cX10_laysTable 71 = .ok (.iconst (-1), 1) := by decide +kernel
theorem dX10_laysTable_72 : decode cX10_laysTable 72 = .ok (.if_icmp .eq 18, 3) := by decide +kernel
theorem dX10_laysTable_75 : decode cX10_laysTable 75 = .ok (.iload 8, 2) := by decide +kernel
theorem dX10_laysTable_77 : decode cX10_laysTable 77 = .ok (.iload 7, 2) := by decide +kernel
theorem dX10_laysTable_79 : decode cX10_laysTable 79 = .ok (.if_icmp .ne 7, 3) := by decide +kernel
theorem dX10_laysTable_82 : decode cX10_laysTable 82 = .ok (.iconst 1, 1) := by decide +kernel
theorem dX10_laysTable_83 : decode cX10_laysTable 83 = .ok (.goto 25, 3) := by decide +kernel
theorem dX10_laysTable_86 : decode cX10_laysTable 86 = .ok (.iconst 0, 1) := by decide +kernel
theorem dX10_laysTable_87 : decode cX10_laysTable 87 = .ok (.goto 21, 3) := by decide +kernel
theorem dX10_laysTable_90 : decode cX10_laysTable 90 = .ok (.aload_n 0, 1) := by decide +kernel
theorem dX10_laysTable_91 : decode cX10_laysTable 91 = .ok (.getfield 7, 3) := by decide +kernel
theorem dX10_laysTable_94 : decode cX10_laysTable 94 = .ok (.aload_n 0, 1) := by decide +kernel
theorem dX10_laysTable_95 : decode cX10_laysTable 95 = .ok (.iload 5, 2) := by decide +kernel
theorem dX10_laysTable_97 : decode cX10_laysTable 97 = .ok (.iload 6, 2) := by decide +kernel
theorem dX10_laysTable_99 : decode cX10_laysTable 99 = .ok (.invokevirtual 119, 3) := by decide +kernel
theorem dX10_laysTable_102 : decode cX10_laysTable 102 = .ok (.iload 8, 2) := by decide +kernel
theorem dX10_laysTable_104 : decode cX10_laysTable 104 = .ok (.invokestatic 130, 3) := by decide +kernel
theorem dX10_laysTable_107 : decode cX10_laysTable 107 = .ok (.iaload, 1) := by decide +kernel
theorem dX10_laysTable_108 : decode cX10_laysTable 108 = .ok (.iastore, 1) := by decide +kernel
theorem dX10_laysTable_109 : decode cX10_laysTable 109 = .ok (.iinc 8 1, 3) := by decide +kernel
theorem dX10_laysTable_112 : decode cX10_laysTable 112 = .ok (.goto (-60), 3) := by decide +kernel
theorem dX10_laysTable_115 : decode cX10_laysTable 115 = .ok (.iinc 4 1, 3) := by decide +kernel
theorem dX10_laysTable_118 : decode cX10_laysTable 118 = .ok (.goto (-115), 3) := by decide +kernel
theorem dX10_laysTable_121 : decode cX10_laysTable 121 = .ok (.return_, 1) := by decide +kernel
theorem dX10_laysTables_0 : decode cX10_laysTables 0 = .ok (.aload_n 0, 1) := by decide +kernel
theorem dX10_laysTables_1 : decode cX10_laysTables 1 = .ok (.aload_n 0, 1) := by decide +kernel
theorem dX10_laysTables_2 : decode cX10_laysTables 2 = .ok (.getfield 43, 3) := by decide +kernel
theorem dX10_laysTables_5 : decode cX10_laysTables 5 = .ok (.iconst 1, 1) := by decide +kernel
theorem dX10_laysTables_6 : decode cX10_laysTables 6 = .ok (.iconst 0, 1) := by decide +kernel
theorem dX10_laysTables_7 : decode cX10_laysTables 7 = .ok (.invokevirtual 257, 3) := by decide +kernel
theorem dX10_laysTables_10 : decode cX10_laysTables 10 = .ok (.aload_n 0, 1) := by decide +kernel
theorem dX10_laysTables_11 : decode cX10_laysTables 11 = .ok (.aload_n 0, 1) := by decide +kernel
theorem dX10_laysTables_12 : decode cX10_laysTables 12 = .ok (.getfield 46, 3) := by decide +kernel
theorem dX10_laysTables_15 : decode cX10_laysTables 15 = .ok (.iconst 0, 1) := by decide +kernel
theorem dX10_laysTables_16 : decode cX10_laysTables 16 = .ok (.iconst 1, 1) := by decide +kernel
theorem dX10_laysTables_17 : decode cX10_laysTables 17 = .ok (.invokevirtual 257, 3) := by decide +kernel
theorem dX10_laysTables_20 : decode cX10_laysTables 20 = .ok (.return_, 1) := by decide +kernel
theorem dX10_multiplies_0 : decode cX10_multiplies 0 = .ok (.iconst 0, 1) := by decide +kernel
theorem dX10_multiplies_1 : decode cX10_multiplies 1 = .ok (.istore 4, 2) := by decide +kernel
theorem dX10_multiplies_3 : decode cX10_multiplies 3 = .ok (.iload 4, 2) := by decide +kernel
theorem dX10_multiplies_5 : decode cX10_multiplies 5 = .ok (.aload_n 0, 1) := by decide +kernel
theorem dX10_multiplies_6 : decode cX10_multiplies 6 = .ok (.invokevirtual 105, 3) := by decide +kernel
theorem dX10_multiplies_9 : decode cX10_multiplies 9 = .ok (.if_icmp .ge 88, 3) := by decide +kernel
theorem dX10_multiplies_12 : decode cX10_multiplies 12 = .ok (.iconst 0, 1) := by decide +kernel
theorem dX10_multiplies_13 : decode cX10_multiplies 13 = .ok (.istore 5, 2) := by decide +kernel
theorem dX10_multiplies_15 : decode cX10_multiplies 15 = .ok (.iload 5, 2) := by decide +kernel
theorem dX10_multiplies_17 : decode cX10_multiplies 17 = .ok (.aload_n 0, 1) := by decide +kernel
theorem dX10_multiplies_18 : decode cX10_multiplies 18 = .ok (.invokevirtual 105, 3) := by decide +kernel
theorem dX10_multiplies_21 : decode cX10_multiplies 21 = .ok (.if_icmp .ge 70, 3) := by decide +kernel
theorem dX10_multiplies_24 : decode cX10_multiplies 24 = .ok (.iconst 0, 1) := by decide +kernel
theorem dX10_multiplies_25 : decode cX10_multiplies 25 = .ok (.istore 6, 2) := by decide +kernel
theorem dX10_multiplies_27 : decode cX10_multiplies 27 = .ok (.iconst 0, 1) := by decide +kernel
theorem dX10_multiplies_28 : decode cX10_multiplies 28 = .ok (.istore 7, 2) := by decide +kernel
theorem dX10_multiplies_30 : decode cX10_multiplies 30 = .ok (.iload 7, 2) := by decide +kernel
theorem dX10_multiplies_32 : decode cX10_multiplies 32 = .ok (.aload_n 0, 1) := by decide +kernel
theorem dX10_multiplies_33 : decode cX10_multiplies 33 = .ok (.invokevirtual 105, 3) := by decide +kernel
theorem dX10_multiplies_36 : decode cX10_multiplies 36 = .ok (.if_icmp .ge 33, 3) := by decide +kernel
theorem dX10_multiplies_39 : decode cX10_multiplies 39 = .ok (.iload 6, 2) := by decide +kernel
theorem dX10_multiplies_41 : decode cX10_multiplies 41 = .ok (.aload_n 1, 1) := by decide +kernel
theorem dX10_multiplies_42 : decode cX10_multiplies 42 = .ok (.iload 4, 2) := by decide +kernel
theorem dX10_multiplies_44 : decode cX10_multiplies 44 = .ok (.iload 7, 2) := by decide +kernel
theorem dX10_multiplies_46 : decode cX10_multiplies 46 = .ok (.invokestatic 254, 3) := by decide +kernel
theorem dX10_multiplies_49 : decode cX10_multiplies 49 = .ok (.iaload, 1) := by decide +kernel
theorem dX10_multiplies_50 : decode cX10_multiplies 50 = .ok (.aload_n 2, 1) := by decide +kernel
theorem dX10_multiplies_51 : decode cX10_multiplies 51 = .ok (.iload 7, 2) := by decide +kernel
theorem dX10_multiplies_53 : decode cX10_multiplies 53 = .ok (.iload 5, 2) := by decide +kernel
theorem dX10_multiplies_55 : decode cX10_multiplies 55 = .ok (.invokestatic 254, 3) := by decide +kernel
theorem dX10_multiplies_58 : decode cX10_multiplies 58 = .ok (.iaload, 1) := by decide +kernel
theorem dX10_multiplies_59 : decode cX10_multiplies 59 = .ok (.imul, 1) := by decide +kernel
theorem dX10_multiplies_60 : decode cX10_multiplies 60 = .ok (.iadd, 1) := by decide +kernel
theorem dX10_multiplies_61 : decode cX10_multiplies 61 = .ok (.istore 6, 2) := by decide +kernel
theorem dX10_multiplies_63 : decode cX10_multiplies 63 = .ok (.iinc 7 1, 3) := by decide +kernel
theorem dX10_multiplies_66 : decode cX10_multiplies 66 = .ok (.goto (-36), 3) := by decide +kernel
theorem dX10_multiplies_69 : decode cX10_multiplies 69 = .ok (.aload_n 3, 1) := by decide +kernel
theorem dX10_multiplies_70 : decode cX10_multiplies 70 = .ok (.iload 4, 2) := by decide +kernel
theorem dX10_multiplies_72 : decode cX10_multiplies 72 = .ok (.iload 5, 2) := by decide +kernel
theorem dX10_multiplies_74 : decode cX10_multiplies 74 = .ok (.invokestatic 254, 3) := by decide +kernel
theorem dX10_multiplies_77 : decode cX10_multiplies 77 = .ok (.iload 6, 2) := by decide +kernel
theorem dX10_multiplies_79 : decode cX10_multiplies 79 = .ok (.aload_n 0, 1) := by decide +kernel
theorem dX10_multiplies_80 : decode cX10_multiplies 80 = .ok (.invokevirtual 97, 3) := by decide +kernel
theorem dX10_multiplies_83 : decode cX10_multiplies 83 = .ok (.irem, 1) := by decide +kernel
theorem dX10_multiplies_84 : decode cX10_multiplies 84 = .ok (.iastore, 1) := by decide +kernel
theorem dX10_multiplies_85 : decode cX10_multiplies 85 = .ok (.iinc 5 1, 3) := by decide +kernel
theorem dX10_multiplies_88 : decode cX10_multiplies 88 = .ok (.goto (-73), 3) := by decide +kernel
theorem dX10_multiplies_91 : decode cX10_multiplies 91 = .ok (.iinc 4 1, 3) := by decide +kernel
theorem dX10_multiplies_94 : decode cX10_multiplies 94 = .ok (.goto (-91), 3) := by decide +kernel
theorem dX10_multiplies_97 : decode cX10_multiplies 97 = .ok (.return_, 1) := by decide +kernel
theorem dX10_copiesCells_0 : decode cX10_copiesCells 0 = .ok (.iconst 0, 1) := by decide +kernel
theorem dX10_copiesCells_1 : decode cX10_copiesCells 1 = .ok (.istore_n 3, 1) := by decide +kernel
theorem dX10_copiesCells_2 : decode cX10_copiesCells 2 = .ok (.iload_n 3, 1) := by decide +kernel
theorem dX10_copiesCells_3 : decode cX10_copiesCells 3 = .ok (.sipush 144, 3) := by decide +kernel
theorem dX10_copiesCells_6 : decode cX10_copiesCells 6 = .ok (.if_icmp .ge 15, 3) := by decide +kernel
theorem dX10_copiesCells_9 : decode cX10_copiesCells 9 = .ok (.aload_n 2, 1) := by decide +kernel
theorem dX10_copiesCells_10 : decode cX10_copiesCells 10 = .ok (.iload_n 3, 1) := by decide +kernel
theorem dX10_copiesCells_11 : decode cX10_copiesCells 11 = .ok (.aload_n 1, 1) := by decide +kernel
theorem dX10_copiesCells_12 : decode cX10_copiesCells 12 = .ok (.iload_n 3, 1) := by decide +kernel
theorem dX10_copiesCells_13 : decode cX10_copiesCells 13 = .ok (.iaload, 1) := by decide +kernel
theorem dX10_copiesCells_14 : decode cX10_copiesCells 14 = .ok (.iastore, 1) := by decide +kernel
theorem dX10_copiesCells_15 : decode cX10_copiesCells 15 = .ok (.iinc 3 1, 3) := by decide +kernel
theorem dX10_copiesCells_18 : decode cX10_copiesCells 18 = .ok (.goto (-16), 3) := by decide +kernel
theorem dX10_copiesCells_21 : decode cX10_copiesCells 21 = .ok (.return_, 1) := by decide +kernel
theorem dX10_laysOne_0 : decode cX10_laysOne 0 = .ok (.iconst 0, 1) := by decide +kernel
theorem dX10_laysOne_1 : decode cX10_laysOne 1 = .ok (.istore_n 2, 1) := by decide +kernel
theorem dX10_laysOne_2 : decode cX10_laysOne 2 = .ok (.iload_n 2, 1) := by decide +kernel
theorem dX10_laysOne_3 : decode cX10_laysOne 3 = .ok (.sipush 144, 3) := by decide +kernel
theorem dX10_laysOne_6 : decode cX10_laysOne 6 = .ok (.if_icmp .ge 24, 3) := by decide +kernel
theorem dX10_laysOne_9 : decode cX10_laysOne 9 = .ok (.aload_n 1, 1) := by decide +kernel
theorem dX10_laysOne_10 : decode cX10_laysOne 10 = .ok (.iload_n 2, 1) := by decide +kernel
theorem dX10_laysOne_11 : decode cX10_laysOne 11 = .ok (.iload_n 2, 1) := by decide +kernel
theorem dX10_laysOne_12 : decode cX10_laysOne 12 = .ok (.bipush 13, 2) := by decide +kernel
theorem dX10_laysOne_14 : decode cX10_laysOne 14 = .ok (.irem, 1) := by decide +kernel
theorem dX10_laysOne_15 : decode cX10_laysOne 15 = .ok (.ifCond .ne 7, 3) := by decide +kernel
theorem dX10_laysOne_18 : decode cX10_laysOne 18 = .ok (.iconst 1, 1) := by decide +kernel
theorem dX10_laysOne_19 : decode cX10_laysOne 19 = .ok (.goto 4, 3) := by decide +kernel
theorem dX10_laysOne_22 : decode cX10_laysOne 22 = .ok (.iconst 0, 1) := by decide +kernel
theorem dX10_laysOne_23 : decode cX10_laysOne 23 = .ok (.iastore, 1) := by decide +kernel
theorem dX10_laysOne_24 : decode cX10_laysOne 24 = .ok (.iinc 2 1, 3) := by decide +kernel
theorem dX10_laysOne_27 : decode cX10_laysOne 27 = .ok (.goto (-25), 3) := by decide +kernel
theorem dX10_laysOne_30 : decode cX10_laysOne 30 = .ok (.return_, 1) := by decide +kernel
theorem dX10_differences_0 : decode cX10_differences 0 = .ok (.aload_n 0, 1) := by decide +kernel
theorem dX10_differences_1 : decode cX10_differences 1 = .ok (.invokevirtual 261, 3) := by decide +kernel
theorem dX10_differences_4 : decode cX10_differences 4 = .ok (.aload_n 0, 1) := by decide +kernel
theorem dX10_differences_5 : decode cX10_differences 5 = .ok (.aload_n 0, 1) := by decide +kernel
theorem dX10_differences_6 : decode cX10_differences 6 = .ok (.getfield 43, 3) := by decide +kernel
theorem dX10_differences_9 : decode cX10_differences 9 = .ok (.aload_n 0, 1) := by decide +kernel
theorem dX10_differences_10 : decode cX10_differences 10 = .ok (.getfield 46, 3) := by decide +kernel
theorem dX10_differences_13 : decode cX10_differences 13 = .ok (.aload_n 0, 1) := by decide +kernel
theorem dX10_differences_14 : decode cX10_differences 14 = .ok (.getfield 52, 3) := by decide +kernel
theorem dX10_differences_17 : decode cX10_differences 17 = .ok (.invokevirtual 264, 3) := by decide +kernel
theorem dX10_differences_20 : decode cX10_differences 20 = .ok (.aload_n 0, 1) := by decide +kernel
theorem dX10_differences_21 : decode cX10_differences 21 = .ok (.aload_n 0, 1) := by decide +kernel
theorem dX10_differences_22 : decode cX10_differences 22 = .ok (.getfield 46, 3) := by decide +kernel
theorem dX10_differences_25 : decode cX10_differences 25 = .ok (.aload_n 0, 1) := by decide +kernel
theorem dX10_differences_26 : decode cX10_differences 26 = .ok (.getfield 43, 3) := by decide +kernel
theorem dX10_differences_29 : decode cX10_differences 29 = .ok (.aload_n 0, 1) := by decide +kernel
theorem dX10_differences_30 : decode cX10_differences 30 = .ok (.getfield 55, 3) := by decide +kernel
theorem dX10_differences_33 : decode cX10_differences 33 = .ok (.invokevirtual 264, 3) := by decide +kernel
theorem dX10_differences_36 : decode cX10_differences 36 = .ok (.iconst 0, 1) := by decide +kernel
theorem dX10_differences_37 : decode cX10_differences 37 = .ok (.istore_n 1, 1) := by decide +kernel
theorem dX10_differences_38 : decode cX10_differences 38 = .ok (.iconst 0, 1) := by decide +kernel
theorem dX10_differences_39 : decode cX10_differences 39 = .ok (.istore_n 2, 1) := by decide +kernel
theorem dX10_differences_40 : decode cX10_differences 40 = .ok (.iload_n 2, 1) := by decide +kernel
theorem dX10_differences_41 : decode cX10_differences 41 = .ok (.aload_n 0, 1) := by decide +kernel
theorem dX10_differences_42 : decode cX10_differences 42 = .ok (.invokevirtual 105, 3) := by decide +kernel
theorem dX10_differences_45 : decode cX10_differences 45 = .ok (.if_icmp .ge 56, 3) := by decide +kernel
theorem dX10_differences_48 : decode cX10_differences 48 = .ok (.iconst 0, 1) := by decide +kernel
theorem dX10_differences_49 : decode cX10_differences 49 = .ok (.istore_n 3, 1) := by decide +kernel
theorem dX10_differences_50 : decode cX10_differences 50 = .ok (.iload_n 3, 1) := by decide +kernel
theorem dX10_differences_51 : decode cX10_differences 51 = .ok (.aload_n 0, 1) := by decide +kernel
theorem dX10_differences_52 : decode cX10_differences 52 = .ok (.invokevirtual 105, 3) := by decide +kernel
theorem dX10_differences_55 : decode cX10_differences 55 = .ok (.if_icmp .ge 40, 3) := by decide +kernel
theorem dX10_differences_58 : decode cX10_differences 58 = .ok (.iload_n 1, 1) := by decide +kernel
theorem dX10_differences_59 : decode cX10_differences 59 = .ok (.aload_n 0, 1) := by decide +kernel
theorem dX10_differences_60 : decode cX10_differences 60 = .ok (.getfield 52, 3) := by decide +kernel
theorem dX10_differences_63 : decode cX10_differences 63 = .ok (.iload_n 2, 1) := by decide +kernel
theorem dX10_differences_64 : decode cX10_differences 64 = .ok (.iload_n 3, 1) := by decide +kernel
theorem dX10_differences_65 : decode cX10_differences 65 = .ok (.invokestatic 254, 3) := by decide +kernel
theorem dX10_differences_68 : decode cX10_differences 68 = .ok (.iaload, 1) := by decide +kernel
theorem dX10_differences_69 : decode cX10_differences 69 = .ok (.aload_n 0, 1) := by decide +kernel
theorem dX10_differences_70 : decode cX10_differences 70 = .ok (.getfield 55, 3) := by decide +kernel
theorem dX10_differences_73 : decode cX10_differences 73 = .ok (.iload_n 2, 1) := by decide +kernel
theorem dX10_differences_74 : decode cX10_differences 74 = .ok (.iload_n 3, 1) := by decide +kernel
theorem dX10_differences_75 : decode cX10_differences 75 = .ok (.invokestatic 254, 3) := by decide +kernel
theorem dX10_differences_78 : decode cX10_differences 78 = .ok (.iaload, 1) := by decide +kernel
theorem dX10_differences_79 : decode cX10_differences 79 = .ok (.if_icmp .ne 7, 3) := by decide +kernel
theorem dX10_differences_82 : decode cX10_differences 82 = .ok (.iconst 0, 1) := by decide +kernel
theorem dX10_differences_83 : decode cX10_differences 83 = .ok (.goto 4, 3) := by decide +kernel
theorem dX10_differences_86 : decode cX10_differences 86 = .ok (.iconst 1, 1) := by decide +kernel
theorem dX10_differences_87 : decode cX10_differences 87 = .ok (.iadd, 1) := by decide +kernel
theorem dX10_differences_88 : decode cX10_differences 88 = .ok (.istore_n 1, 1) := by decide +kernel
theorem dX10_differences_89 : decode cX10_differences 89 = .ok (.iinc 3 1, 3) := by decide +kernel
theorem dX10_differences_92 : decode cX10_differences 92 = .ok (.goto (-42), 3) := by decide +kernel
theorem dX10_differences_95 : decode cX10_differences 95 = .ok (.iinc 2 1, 3) := by decide +kernel
theorem dX10_differences_98 : decode cX10_differences 98 = .ok (.goto (-58), 3) := by decide +kernel
theorem dX10_differences_101 : decode cX10_differences 101 = .ok (.iload_n 1, 1) := by decide +kernel
theorem dX10_differences_102 : decode cX10_differences 102 = .ok (.ireturn, 1) := by decide +kernel
theorem dX10_areFriends_0 : decode cX10_areFriends 0 = .ok (.aload_n 0, 1) := by decide +kernel
theorem dX10_areFriends_1 : decode cX10_areFriends 1 = .ok (.invokevirtual 268, 3) := by decide +kernel
theorem dX10_areFriends_4 : decode cX10_areFriends 4 = .ok (.ifCond .ne 7, 3) := by decide +kernel
theorem dX10_areFriends_7 : decode cX10_areFriends 7 = .ok (.iconst 1, 1) := by decide +kernel
theorem dX10_areFriends_8 : decode cX10_areFriends 8 = .ok (.goto 4, 3) := by decide +kernel
theorem dX10_areFriends_11 : decode cX10_areFriends 11 = .ok (.iconst 0, 1) := by decide +kernel
theorem dX10_areFriends_12 : decode cX10_areFriends 12 = .ok (.ireturn, 1) := by decide +kernel
theorem dX10_raises_0 : decode cX10_raises 0 = .ok (.aload_n 0, 1) := by decide +kernel
theorem dX10_raises_1 : decode cX10_raises 1 = .ok (.aload_n 0, 1) := by decide +kernel
theorem dX10_raises_2 : decode cX10_raises 2 = .ok (.getfield 49, 3) := by decide +kernel
theorem dX10_raises_5 : decode cX10_raises 5 = .ok (.invokevirtual 271, 3) := by decide +kernel
theorem dX10_raises_8 : decode cX10_raises 8 = .ok (.iconst 0, 1) := by decide +kernel
theorem dX10_raises_9 : decode cX10_raises 9 = .ok (.istore_n 3, 1) := by decide +kernel
theorem dX10_raises_10 : decode cX10_raises 10 = .ok (.iload_n 3, 1) := by decide +kernel
theorem dX10_raises_11 : decode cX10_raises 11 = .ok (.iload_n 2, 1) := by decide +kernel
theorem dX10_raises_12 : decode cX10_raises 12 = .ok (.if_icmp .ge 34, 3) := by decide +kernel
theorem dX10_raises_15 : decode cX10_raises 15 = .ok (.aload_n 0, 1) := by decide +kernel
theorem dX10_raises_16 : decode cX10_raises 16 = .ok (.aload_n 1, 1) := by decide +kernel
theorem dX10_raises_17 : decode cX10_raises 17 = .ok (.aload_n 0, 1) := by decide +kernel
theorem dX10_raises_18 : decode cX10_raises 18 = .ok (.getfield 49, 3) := by decide +kernel
theorem dX10_raises_21 : decode cX10_raises 21 = .ok (.aload_n 0, 1) := by decide +kernel
theorem dX10_raises_22 : decode cX10_raises 22 = .ok (.getfield 55, 3) := by decide +kernel
theorem dX10_raises_25 : decode cX10_raises 25 = .ok (.invokevirtual 264, 3) := by decide +kernel
theorem dX10_raises_28 : decode cX10_raises 28 = .ok (.aload_n 0, 1) := by decide +kernel
theorem dX10_raises_29 : decode cX10_raises 29 = .ok (.aload_n 0, 1) := by decide +kernel
theorem dX10_raises_30 : decode cX10_raises 30 = .ok (.getfield 55, 3) := by decide +kernel
theorem dX10_raises_33 : decode cX10_raises 33 = .ok (.aload_n 0, 1) := by decide +kernel
theorem dX10_raises_34 : decode cX10_raises 34 = .ok (.getfield 49, 3) := by decide +kernel
theorem dX10_raises_37 : decode cX10_raises 37 = .ok (.invokevirtual 275, 3) := by decide +kernel
theorem dX10_raises_40 : decode cX10_raises 40 = .ok (.iinc 3 1, 3) := by decide +kernel
theorem dX10_raises_43 : decode cX10_raises 43 = .ok (.goto (-33), 3) := by decide +kernel
theorem dX10_raises_46 : decode cX10_raises 46 = .ok (.return_, 1) := by decide +kernel
theorem dX10_traceOf_0 : decode cX10_traceOf 0 = .ok (.aload_n 0, 1) := by decide +kernel
theorem dX10_traceOf_1 : decode cX10_traceOf 1 = .ok (.aload_n 0, 1) := by decide +kernel
theorem dX10_traceOf_2 : decode cX10_traceOf 2 = .ok (.getfield 46, 3) := by decide +kernel
theorem dX10_traceOf_5 : decode cX10_traceOf 5 = .ok (.iload_n 2, 1) := by decide +kernel
theorem dX10_traceOf_6 : decode cX10_traceOf 6 = .ok (.invokevirtual 279, 3) := by decide +kernel
theorem dX10_traceOf_9 : decode cX10_traceOf 9 = .ok (.iconst 0, 1) := by decide +kernel
theorem dX10_traceOf_10 : decode cX10_traceOf 10 = .ok (.istore_n 3, 1) := by decide +kernel
theorem dX10_traceOf_11 : decode cX10_traceOf 11 = .ok (.iload_n 3, 1) := by decide +kernel
theorem dX10_traceOf_12 : decode cX10_traceOf 12 = .ok (.iload_n 1, 1) := by decide +kernel
theorem dX10_traceOf_13 : decode cX10_traceOf 13 = .ok (.if_icmp .ge 37, 3) := by decide +kernel
theorem dX10_traceOf_16 : decode cX10_traceOf 16 = .ok (.aload_n 0, 1) := by decide +kernel
theorem dX10_traceOf_17 : decode cX10_traceOf 17 = .ok (.aload_n 0, 1) := by decide +kernel
theorem dX10_traceOf_18 : decode cX10_traceOf 18 = .ok (.getfield 43, 3) := by decide +kernel
theorem dX10_traceOf_21 : decode cX10_traceOf 21 = .ok (.aload_n 0, 1) := by decide +kernel
theorem dX10_traceOf_22 : decode cX10_traceOf 22 = .ok (.getfield 49, 3) := by decide +kernel
theorem dX10_traceOf_25 : decode cX10_traceOf 25 = .ok (.aload_n 0, 1) := by decide +kernel
theorem dX10_traceOf_26 : decode cX10_traceOf 26 = .ok (.getfield 55, 3) := by decide +kernel
theorem dX10_traceOf_29 : decode cX10_traceOf 29 = .ok (.invokevirtual 264, 3) := by decide +kernel
theorem dX10_traceOf_32 : decode cX10_traceOf 32 = .ok (.aload_n 0, 1) := by decide +kernel
theorem dX10_traceOf_33 : decode cX10_traceOf 33 = .ok (.aload_n 0, 1) := by decide +kernel
theorem dX10_traceOf_34 : decode cX10_traceOf 34 = .ok (.getfield 55, 3) := by decide +kernel
theorem dX10_traceOf_37 : decode cX10_traceOf 37 = .ok (.aload_n 0, 1) := by decide +kernel
theorem dX10_traceOf_38 : decode cX10_traceOf 38 = .ok (.getfield 49, 3) := by decide +kernel
theorem dX10_traceOf_41 : decode cX10_traceOf 41 = .ok (.invokevirtual 275, 3) := by decide +kernel
theorem dX10_traceOf_44 : decode cX10_traceOf 44 = .ok (.iinc 3 1, 3) := by decide +kernel
theorem dX10_traceOf_47 : decode cX10_traceOf 47 = .ok (.goto (-36), 3) := by decide +kernel
theorem dX10_traceOf_50 : decode cX10_traceOf 50 = .ok (.iconst 0, 1) := by decide +kernel
theorem dX10_traceOf_51 : decode cX10_traceOf 51 = .ok (.istore_n 3, 1) := by decide +kernel
theorem dX10_traceOf_52 : decode cX10_traceOf 52 = .ok (.iconst 0, 1) := by decide +kernel
theorem dX10_traceOf_53 : decode cX10_traceOf 53 = .ok (.istore 4, 2) := by decide +kernel
theorem dX10_traceOf_55 : decode cX10_traceOf 55 = .ok (.iload 4, 2) := by decide +kernel
theorem dX10_traceOf_57 : decode cX10_traceOf 57 = .ok (.aload_n 0, 1) := by decide +kernel
theorem dX10_traceOf_58 : decode cX10_traceOf 58 = .ok (.invokevirtual 105, 3) := by decide +kernel
theorem dX10_traceOf_61 : decode cX10_traceOf 61 = .ok (.if_icmp .ge 24, 3) := by decide +kernel
theorem dX10_traceOf_64 : decode cX10_traceOf 64 = .ok (.iload_n 3, 1) := by decide +kernel
theorem dX10_traceOf_65 : decode cX10_traceOf 65 = .ok (.aload_n 0, 1) := by decide +kernel
theorem dX10_traceOf_66 : decode cX10_traceOf 66 = .ok (.getfield 49, 3) := by decide +kernel
theorem dX10_traceOf_69 : decode cX10_traceOf 69 = .ok (.iload 4, 2) := by decide +kernel
theorem dX10_traceOf_71 : decode cX10_traceOf 71 = .ok (.iload 4, 2) := by decide +kernel
theorem dX10_traceOf_73 : decode cX10_traceOf 73 = .ok (.invokestatic 254, 3) := by decide +kernel
theorem dX10_traceOf_76 : decode cX10_traceOf 76 = .ok (.iaload, 1) := by decide +kernel
theorem dX10_traceOf_77 : decode cX10_traceOf 77 = .ok (.iadd, 1) := by decide +kernel
theorem dX10_traceOf_78 : decode cX10_traceOf 78 = .ok (.istore_n 3, 1) := by decide +kernel
theorem dX10_traceOf_79 : decode cX10_traceOf 79 = .ok (.iinc 4 1, 3) := by decide +kernel
theorem dX10_traceOf_82 : decode cX10_traceOf 82 = .ok (.goto (-27), 3) := by decide +kernel
theorem dX10_traceOf_85 : decode cX10_traceOf 85 = .ok (.iload_n 3, 1) := by decide +kernel
theorem dX10_traceOf_86 : decode cX10_traceOf 86 = .ok (.aload_n 0, 1) := by decide +kernel
theorem dX10_traceOf_87 : decode cX10_traceOf 87 = .ok (.invokevirtual 97, 3) := by decide +kernel
theorem dX10_traceOf_90 : decode cX10_traceOf 90 = .ok (.irem, 1) := by decide +kernel
theorem dX10_traceOf_91 : decode cX10_traceOf 91 = .ok (.ireturn, 1) := by decide +kernel
theorem dX10_swapsRows_0 : decode cX10_swapsRows 0 = .ok (.iconst 0, 1) := by decide +kernel
theorem dX10_swapsRows_1 : decode cX10_swapsRows 1 = .ok (.istore_n 3, 1) := by decide +kernel
theorem dX10_swapsRows_2 : decode cX10_swapsRows 2 = .ok (.iload_n 3, 1) := by decide +kernel
theorem dX10_swapsRows_3 : decode cX10_swapsRows 3 = .ok (.bipush 12, 2) := by decide +kernel
theorem dX10_swapsRows_5 : decode cX10_swapsRows 5 = .ok (.if_icmp .ge 53, 3) := by decide +kernel
theorem dX10_swapsRows_8 : decode cX10_swapsRows 8 = .ok (.aload_n 0, 1) := by decide +kernel
theorem dX10_swapsRows_9 : decode cX10_swapsRows 9 = .ok (.getfield 58, 3) := by decide +kernel
theorem dX10_swapsRows_12 : decode cX10_swapsRows 12 = .ok (.iload_n 1, 1) := by decide +kernel
theorem dX10_swapsRows_13 : decode cX10_swapsRows 13 = .ok (.iload_n 3, 1) := by decide +kernel
theorem dX10_swapsRows_14 : decode cX10_swapsRows 14 = .ok (.invokestatic 254, 3) := by decide +kernel
theorem dX10_swapsRows_17 : decode cX10_swapsRows 17 = .ok (.iaload, 1) := by decide +kernel
theorem dX10_swapsRows_18 : decode cX10_swapsRows 18 = .ok (.istore 4, 2) := by decide +kernel
theorem dX10_swapsRows_20 : decode cX10_swapsRows 20 = .ok (.aload_n 0, 1) := by decide +kernel
theorem dX10_swapsRows_21 : decode cX10_swapsRows 21 = .ok (.getfield 58, 3) := by decide +kernel
theorem dX10_swapsRows_24 : decode cX10_swapsRows 24 = .ok (.iload_n 1, 1) := by decide +kernel
theorem dX10_swapsRows_25 : decode cX10_swapsRows 25 = .ok (.iload_n 3, 1) := by decide +kernel
theorem dX10_swapsRows_26 : decode cX10_swapsRows 26 = .ok (.invokestatic 254, 3) := by decide +kernel
theorem dX10_swapsRows_29 : decode cX10_swapsRows 29 = .ok (.aload_n 0, 1) := by decide +kernel
theorem dX10_swapsRows_30 : decode cX10_swapsRows 30 = .ok (.getfield 58, 3) := by decide +kernel
theorem dX10_swapsRows_33 : decode cX10_swapsRows 33 = .ok (.iload_n 2, 1) := by decide +kernel
theorem dX10_swapsRows_34 : decode cX10_swapsRows 34 = .ok (.iload_n 3, 1) := by decide +kernel
theorem dX10_swapsRows_35 : decode cX10_swapsRows 35 = .ok (.invokestatic 254, 3) := by decide +kernel
theorem dX10_swapsRows_38 : decode cX10_swapsRows 38 = .ok (.iaload, 1) := by decide +kernel
theorem dX10_swapsRows_39 : decode cX10_swapsRows 39 = .ok (.iastore, 1) := by decide +kernel
theorem dX10_swapsRows_40 : decode cX10_swapsRows 40 = .ok (.aload_n 0, 1) := by decide +kernel
theorem dX10_swapsRows_41 : decode cX10_swapsRows 41 = .ok (.getfield 58, 3) := by decide +kernel
theorem dX10_swapsRows_44 : decode cX10_swapsRows 44 = .ok (.iload_n 2, 1) := by decide +kernel
theorem dX10_swapsRows_45 : decode cX10_swapsRows 45 = .ok (.iload_n 3, 1) := by decide +kernel
theorem dX10_swapsRows_46 : decode cX10_swapsRows 46 = .ok (.invokestatic 254, 3) := by decide +kernel
theorem dX10_swapsRows_49 : decode cX10_swapsRows 49 = .ok (.iload 4, 2) := by decide +kernel
theorem dX10_swapsRows_51 : decode cX10_swapsRows 51 = .ok (.iastore, 1) := by decide +kernel
theorem dX10_swapsRows_52 : decode cX10_swapsRows 52 = .ok (.iinc 3 1, 3) := by decide +kernel
theorem dX10_swapsRows_55 : decode cX10_swapsRows 55 = .ok (.goto (-53), 3) := by decide +kernel
theorem dX10_swapsRows_58 : decode cX10_swapsRows 58 = .ok (.return_, 1) := by decide +kernel
theorem dX10_reduces_0 : decode cX10_reduces 0 = .ok (.aload_n 0, 1) := by decide +kernel
theorem dX10_reduces_1 : decode cX10_reduces 1 = .ok (.iconst 0, 1) := by decide +kernel
theorem dX10_reduces_2 : decode cX10_reduces 2 = .ok (.putfield 283, 3) := by decide +kernel
theorem dX10_reduces_5 : decode cX10_reduces 5 = .ok (.aload_n 0, 1) := by decide +kernel
theorem dX10_reduces_6 : decode cX10_reduces 6 = .ok (.iconst 1, 1) := by decide +kernel
theorem dX10_reduces_7 : decode cX10_reduces 7 = .ok (.putfield 286, 3) := by decide +kernel
theorem dX10_reduces_10 : decode cX10_reduces 10 = .ok (.iconst 0, 1) := by decide +kernel
theorem dX10_reduces_11 : decode cX10_reduces 11 = .ok (.istore_n 2, 1) := by decide +kernel
theorem dX10_reduces_12 : decode cX10_reduces 12 = .ok (.iload_n 2, 1) := by decide +kernel
theorem dX10_reduces_13 : decode cX10_reduces 13 = .ok (.aload_n 0, 1) := by decide +kernel
theorem dX10_reduces_14 : decode cX10_reduces 14 = .ok (.invokevirtual 105, 3) := by decide +kernel
theorem dX10_reduces_17 : decode cX10_reduces 17 = .ok (.if_icmp .ge 247, 3) := by decide +kernel
theorem dX10_reduces_20 : decode cX10_reduces 20 = .ok (.aload_n 0, 1) := by decide +kernel
theorem dX10_reduces_21 : decode cX10_reduces 21 = .ok (.getfield 283, 3) := by decide +kernel
theorem dX10_reduces_24 : decode cX10_reduces 24 = .ok (.istore_n 3, 1) := by decide +kernel
theorem dX10_reduces_25 : decode cX10_reduces 25 = .ok (.iload_n 3, 1) := by decide +kernel
theorem dX10_reduces_26 : decode cX10_reduces 26 = .ok (.iload_n 1, 1) := by decide +kernel
theorem dX10_reduces_27 : decode cX10_reduces 27 = .ok (.if_icmp .ge 22, 3) := by decide +kernel
theorem dX10_reduces_30 : decode cX10_reduces 30 = .ok (.aload_n 0, 1) := by decide +kernel
theorem dX10_reduces_31 : decode cX10_reduces 31 = .ok (.getfield 58, 3) := by decide +kernel
theorem dX10_reduces_34 : decode cX10_reduces 34 = .ok (.iload_n 3, 1) := by decide +kernel
theorem dX10_reduces_35 : decode cX10_reduces 35 = .ok (.iload_n 2, 1) := by decide +kernel
theorem dX10_reduces_36 : decode cX10_reduces 36 = .ok (.invokestatic 254, 3) := by decide +kernel
theorem dX10_reduces_39 : decode cX10_reduces 39 = .ok (.iaload, 1) := by decide +kernel
theorem dX10_reduces_40 : decode cX10_reduces 40 = .ok (.ifCond .ne 9, 3) := by decide +kernel
theorem dX10_reduces_43 : decode cX10_reduces 43 = .ok (.iinc 3 1, 3) := by decide +kernel
theorem dX10_reduces_46 : decode cX10_reduces 46 = .ok (.goto (-21), 3) := by decide +kernel
theorem dX10_reduces_49 : decode cX10_reduces 49 = .ok (.iload_n 3, 1) := by decide +kernel
theorem dX10_reduces_50 : decode cX10_reduces 50 = .ok (.iload_n 1, 1) := by decide +kernel
theorem dX10_reduces_51 : decode cX10_reduces 51 = .ok (.if_icmp .ne 11, 3) := by decide +kernel
theorem dX10_reduces_54 : decode cX10_reduces 54 = .ok (.aload_n 0, 1) := by decide +kernel
theorem dX10_reduces_55 : decode cX10_reduces 55 = .ok (.iconst 0, 1) := by decide +kernel
theorem dX10_reduces_56 : decode cX10_reduces 56 = .ok (.putfield 286, 3) := by decide +kernel
theorem dX10_reduces_59 : decode cX10_reduces 59 = .ok (.goto 199, 3) := by decide +kernel
theorem dX10_reduces_62 : decode cX10_reduces 62 = .ok (.iload_n 3, 1) := by decide +kernel
theorem dX10_reduces_63 : decode cX10_reduces 63 = .ok (.aload_n 0, 1) := by decide +kernel
theorem dX10_reduces_64 : decode cX10_reduces 64 = .ok (.getfield 283, 3) := by decide +kernel
theorem dX10_reduces_67 : decode cX10_reduces 67 = .ok (.if_icmp .eq 25, 3) := by decide +kernel
theorem dX10_reduces_70 : decode cX10_reduces 70 = .ok (.aload_n 0, 1) := by decide +kernel
theorem dX10_reduces_71 : decode cX10_reduces 71 = .ok (.iload_n 3, 1) := by decide +kernel
theorem dX10_reduces_72 : decode cX10_reduces 72 = .ok (.aload_n 0, 1) := by decide +kernel
theorem dX10_reduces_73 : decode cX10_reduces 73 = .ok (.getfield 283, 3) := by decide +kernel
theorem dX10_reduces_76 : decode cX10_reduces 76 = .ok (.invokevirtual 289, 3) := by decide +kernel
theorem dX10_reduces_79 : decode cX10_reduces 79 = .ok (.aload_n 0, 1) := by decide +kernel
theorem dX10_reduces_80 : decode cX10_reduces 80 = .ok (.aload_n 0, 1) := by decide +kernel
theorem dX10_reduces_81 : decode cX10_reduces 81 = .ok (.aload_n 0, 1) := by decide +kernel
theorem dX10_reduces_82 : decode cX10_reduces 82 = .ok (.getfield 286, 3) := by decide +kernel
theorem dX10_reduces_85 : decode cX10_reduces 85 = .ok (.ineg, 1) := by decide +kernel
theorem dX10_reduces_86 : decode cX10_reduces 86 = .ok (.invokevirtual 205, 3) := by decide +kernel
theorem dX10_reduces_89 : decode cX10_reduces 89 = .ok (.putfield 286, 3) := by decide +kernel
theorem dX10_reduces_92 : decode cX10_reduces 92 = .ok (.aload_n 0, 1) := by decide +kernel
theorem dX10_reduces_93 : decode cX10_reduces 93 = .ok (.aload_n 0, 1) := by decide +kernel
theorem dX10_reduces_94 : decode cX10_reduces 94 = .ok (.getfield 286, 3) := by decide +kernel
theorem dX10_reduces_97 : decode cX10_reduces 97 = .ok (.aload_n 0, 1) := by decide +kernel
theorem dX10_reduces_98 : decode cX10_reduces 98 = .ok (.getfield 58, 3) := by decide +kernel
theorem dX10_reduces_101 : decode cX10_reduces 101 = .ok (.aload_n 0, 1) := by decide +kernel
theorem dX10_reduces_102 : decode cX10_reduces 102 = .ok (.getfield 283, 3) := by decide +kernel
theorem dX10_reduces_105 : decode cX10_reduces 105 = .ok (.iload_n 2, 1) := by decide +kernel
theorem dX10_reduces_106 : decode cX10_reduces 106 = .ok (.invokestatic 254, 3) := by decide +kernel
theorem dX10_reduces_109 : decode cX10_reduces 109 = .ok (.iaload, 1) := by decide +kernel
theorem dX10_reduces_110 : decode cX10_reduces 110 = .ok (.imul, 1) := by decide +kernel
theorem dX10_reduces_111 : decode cX10_reduces 111 = .ok (.aload_n 0, 1) := by decide +kernel
theorem dX10_reduces_112 : decode cX10_reduces 112 = .ok (.invokevirtual 97, 3) := by decide +kernel
theorem dX10_reduces_115 : decode cX10_reduces 115 = .ok (.irem, 1) := by decide +kernel
theorem dX10_reduces_116 : decode cX10_reduces 116 = .ok (.putfield 286, 3) := by decide +kernel
theorem dX10_reduces_119 : decode cX10_reduces 119 = .ok (.aload_n 0, 1) := by decide +kernel
theorem dX10_reduces_120 : decode cX10_reduces 120 = .ok (.aload_n 0, 1) := by decide +kernel
theorem dX10_reduces_121 : decode cX10_reduces 121 = .ok (.getfield 58, 3) := by decide +kernel
theorem dX10_reduces_124 : decode cX10_reduces 124 = .ok (.aload_n 0, 1) := by decide +kernel
theorem dX10_reduces_125 : decode cX10_reduces 125 = .ok (.getfield 283, 3) := by decide +kernel
theorem dX10_reduces_128 : decode cX10_reduces 128 = .ok (.iload_n 2, 1) := by decide +kernel
theorem dX10_reduces_129 : decode cX10_reduces 129 = .ok (.invokestatic 254, 3) := by decide +kernel
theorem dX10_reduces_132 : decode cX10_reduces 132 = .ok (.iaload, 1) := by decide +kernel
theorem dX10_reduces_133 : decode cX10_reduces 133 = .ok (.invokevirtual 292, 3) := by decide +kernel
theorem dX10_reduces_136 : decode cX10_reduces 136 = .ok (.istore 4, 2) := by decide +kernel
theorem dX10_reduces_138 : decode cX10_reduces 138 = .ok (.aload_n 0, 1) := by decide +kernel
theorem dX10_reduces_139 : decode cX10_reduces 139 = .ok (.getfield 283, 3) := by decide +kernel
theorem dX10_reduces_142 : decode cX10_reduces 142 = .ok (.iconst 1, 1) := by decide +kernel
theorem dX10_reduces_143 : decode cX10_reduces 143 = .ok (.iadd, 1) := by decide +kernel
theorem dX10_reduces_144 : decode cX10_reduces 144 = .ok (.istore 5, 2) := by decide +kernel
theorem dX10_reduces_146 : decode cX10_reduces 146 = .ok (.iload 5, 2) := by decide +kernel
theorem dX10_reduces_148 : decode cX10_reduces 148 = .ok (.iload_n 1, 1) := by decide +kernel
theorem dX10_reduces_149 : decode cX10_reduces 149 = .ok (.if_icmp .ge 99, 3) := by decide +kernel
theorem dX10_reduces_152 : decode cX10_reduces 152 = .ok (.aload_n 0, 1) := by decide +kernel
theorem dX10_reduces_153 : decode cX10_reduces 153 = .ok (.getfield 58, 3) := by decide +kernel
theorem dX10_reduces_156 : decode cX10_reduces 156 = .ok (.iload 5, 2) := by decide +kernel
theorem dX10_reduces_158 : decode cX10_reduces 158 = .ok (.iload_n 2, 1) := by decide +kernel
theorem dX10_reduces_159 : decode cX10_reduces 159 = .ok (.invokestatic 254, 3) := by decide +kernel
theorem dX10_reduces_162 : decode cX10_reduces 162 = .ok (.iaload, 1) := by decide +kernel
theorem dX10_reduces_163 : decode cX10_reduces 163 = .ok (.iload 4, 2) := by decide +kernel
theorem dX10_reduces_165 : decode cX10_reduces 165 = .ok (.imul, 1) := by decide +kernel
theorem dX10_reduces_166 : decode cX10_reduces 166 = .ok (.aload_n 0, 1) := by decide +kernel
theorem dX10_reduces_167 : decode cX10_reduces 167 = .ok (.invokevirtual 97, 3) := by decide +kernel
theorem dX10_reduces_170 : decode cX10_reduces 170 = .ok (.irem, 1) := by decide +kernel
theorem dX10_reduces_171 : decode cX10_reduces 171 = .ok (.istore 6, 2) := by decide +kernel
theorem dX10_reduces_173 : decode cX10_reduces 173 = .ok (.iload_n 2, 1) := by decide +kernel
theorem dX10_reduces_174 : decode cX10_reduces 174 = .ok (.istore 7, 2) := by decide +kernel
theorem dX10_reduces_176 : decode cX10_reduces 176 = .ok (.iload 7, 2) := by decide +kernel
theorem dX10_reduces_178 : decode cX10_reduces 178 = .ok (.aload_n 0, 1) := by decide +kernel
theorem dX10_reduces_179 : decode cX10_reduces 179 = .ok (.invokevirtual 105, 3) := by decide +kernel
theorem dX10_reduces_182 : decode cX10_reduces 182 = .ok (.if_icmp .ge 60, 3) := by decide +kernel
theorem dX10_reduces_185 : decode cX10_reduces 185 = .ok (.iload 6, 2) := by decide +kernel
theorem dX10_reduces_187 : decode cX10_reduces 187 = .ok (.ifCond .le 55, 3) := by decide +kernel
theorem dX10_reduces_190 : decode cX10_reduces 190 = .ok (.aload_n 0, 1) := by decide +kernel
theorem dX10_reduces_191 : decode cX10_reduces 191 = .ok (.getfield 58, 3) := by decide +kernel
theorem dX10_reduces_194 : decode cX10_reduces 194 = .ok (.iload 5, 2) := by decide +kernel
theorem dX10_reduces_196 : decode cX10_reduces 196 = .ok (.iload 7, 2) := by decide +kernel
theorem dX10_reduces_198 : decode cX10_reduces 198 = .ok (.invokestatic 254, 3) := by decide +kernel
theorem dX10_reduces_201 : decode cX10_reduces 201 = .ok (.aload_n 0, 1) := by decide +kernel
theorem dX10_reduces_202 : decode cX10_reduces 202 = .ok (.aload_n 0, 1) := by decide +kernel
theorem dX10_reduces_203 : decode cX10_reduces 203 = .ok (.getfield 58, 3) := by decide +kernel
theorem dX10_reduces_206 : decode cX10_reduces 206 = .ok (.iload 5, 2) := by decide +kernel
theorem dX10_reduces_208 : decode cX10_reduces 208 = .ok (.iload 7, 2) := by decide +kernel
theorem dX10_reduces_210 : decode cX10_reduces 210 = .ok (.invokestatic 254, 3) := by decide +kernel
theorem dX10_reduces_213 : decode cX10_reduces 213 = .ok (.iaload, 1) := by decide +kernel
theorem dX10_reduces_214 : decode cX10_reduces 214 = .ok (.iload 6, 2) := by decide +kernel
theorem dX10_reduces_216 : decode cX10_reduces 216 = .ok (.aload_n 0, 1) := by decide +kernel
theorem dX10_reduces_217 : decode cX10_reduces 217 = .ok (.getfield 58, 3) := by decide +kernel
theorem dX10_reduces_220 : decode cX10_reduces 220 = .ok (.aload_n 0, 1) := by decide +kernel
theorem dX10_reduces_221 : decode cX10_reduces 221 = .ok (.getfield 283, 3) := by decide +kernel
theorem dX10_reduces_224 : decode cX10_reduces 224 = .ok (.iload 7, 2) := by decide +kernel
theorem dX10_reduces_226 : decode cX10_reduces 226 = .ok (.invokestatic 254, 3) := by decide +kernel
theorem dX10_reduces_229 : decode cX10_reduces 229 = .ok (.iaload, 1) := by decide +kernel
theorem dX10_reduces_230 : decode cX10_reduces 230 = .ok (.imul, 1) := by decide +kernel
theorem dX10_reduces_231 : decode cX10_reduces 231 = .ok (.isub, 1) := by decide +kernel
theorem dX10_reduces_232 : decode cX10_reduces 232 = .ok (.invokevirtual 205, 3) := by decide +kernel
theorem dX10_reduces_235 : decode cX10_reduces 235 = .ok (.iastore, 1) := by decide +kernel
theorem dX10_reduces_236 : decode cX10_reduces 236 = .ok (.iinc 7 1, 3) := by decide +kernel
theorem dX10_reduces_239 : decode cX10_reduces 239 = .ok (.goto (-63), 3) := by decide +kernel
theorem dX10_reduces_242 : decode cX10_reduces 242 = .ok (.iinc 5 1, 3) := by decide +kernel
theorem dX10_reduces_245 : decode cX10_reduces 245 = .ok (.goto (-99), 3) := by decide +kernel
theorem dX10_reduces_248 : decode cX10_reduces 248 = .ok (.aload_n 0, 1) := by decide +kernel
theorem dX10_reduces_249 : decode cX10_reduces 249 = .ok (.dup, 1) := by decide +kernel
theorem dX10_reduces_250 : decode cX10_reduces 250 = .ok (.getfield 283, 3) := by decide +kernel
theorem dX10_reduces_253 : decode cX10_reduces 253 = .ok (.iconst 1, 1) := by decide +kernel
theorem dX10_reduces_254 : decode cX10_reduces 254 = .ok (.iadd, 1) := by decide +kernel
theorem dX10_reduces_255 : decode cX10_reduces 255 = .ok (.putfield 283, 3) := by decide +kernel
theorem dX10_reduces_258 : decode cX10_reduces 258 = .ok (.iinc 2 1, 3) := by decide +kernel
theorem dX10_reduces_261 : decode cX10_reduces 261 = .ok (.goto (-249), 3) := by decide +kernel
theorem dX10_reduces_264 : decode cX10_reduces 264 = .ok (.return_, 1) := by decide +kernel
theorem dX10_lessens_0 : decode cX10_lessens 0 = .ok (.iconst 0, 1) := by decide +kernel
theorem dX10_lessens_1 : decode cX10_lessens 1 = .ok (.istore_n 3, 1) := by decide +kernel
theorem dX10_lessens_2 : decode cX10_lessens 2 = .ok (.iload_n 3, 1) := by decide +kernel
theorem dX10_lessens_3 : decode cX10_lessens 3 = .ok (.aload_n 0, 1) := by decide +kernel
theorem dX10_lessens_4 : decode cX10_lessens 4 = .ok (.invokevirtual 105, 3) := by decide +kernel
theorem dX10_lessens_7 : decode cX10_lessens 7 = .ok (.if_icmp .ge 29, 3) := by decide +kernel
theorem dX10_lessens_10 : decode cX10_lessens 10 = .ok (.aload_n 1, 1) := by decide +kernel
theorem dX10_lessens_11 : decode cX10_lessens 11 = .ok (.iload_n 3, 1) := by decide +kernel
theorem dX10_lessens_12 : decode cX10_lessens 12 = .ok (.iload_n 3, 1) := by decide +kernel
theorem dX10_lessens_13 : decode cX10_lessens 13 = .ok (.invokestatic 254, 3) := by decide +kernel
theorem dX10_lessens_16 : decode cX10_lessens 16 = .ok (.aload_n 0, 1) := by decide +kernel
theorem dX10_lessens_17 : decode cX10_lessens 17 = .ok (.aload_n 1, 1) := by decide +kernel
theorem dX10_lessens_18 : decode cX10_lessens 18 = .ok (.iload_n 3, 1) := by decide +kernel
theorem dX10_lessens_19 : decode cX10_lessens 19 = .ok (.iload_n 3, 1) := by decide +kernel
theorem dX10_lessens_20 : decode cX10_lessens 20 = .ok (.invokestatic 254, 3) := by decide +kernel
theorem dX10_lessens_23 : decode cX10_lessens 23 = .ok (.iaload, 1) := by decide +kernel
theorem dX10_lessens_24 : decode cX10_lessens 24 = .ok (.iload_n 2, 1) := by decide +kernel
theorem dX10_lessens_25 : decode cX10_lessens 25 = .ok (.isub, 1) := by decide +kernel
theorem dX10_lessens_26 : decode cX10_lessens 26 = .ok (.invokevirtual 205, 3) := by decide +kernel
theorem dX10_lessens_29 : decode cX10_lessens 29 = .ok (.iastore, 1) := by decide +kernel
theorem dX10_lessens_30 : decode cX10_lessens 30 = .ok (.iinc 3 1, 3) := by decide +kernel
theorem dX10_lessens_33 : decode cX10_lessens 33 = .ok (.goto (-31), 3) := by decide +kernel
theorem dX10_lessens_36 : decode cX10_lessens 36 = .ok (.return_, 1) := by decide +kernel
theorem dX10_laysTall_0 : decode cX10_laysTall 0 = .ok (.iconst 0, 1) := by decide +kernel
theorem dX10_laysTall_1 : decode cX10_laysTall 1 = .ok (.istore_n 3, 1) := by decide +kernel
theorem dX10_laysTall_2 : decode cX10_laysTall 2 = .ok (.iload_n 3, 1) := by decide +kernel
theorem dX10_laysTall_3 : decode cX10_laysTall 3 = .ok (.aload_n 0, 1) := by decide +kernel
theorem dX10_laysTall_4 : decode cX10_laysTall 4 = .ok (.invokevirtual 105, 3) := by decide +kernel
theorem dX10_laysTall_7 : decode cX10_laysTall 7 = .ok (.if_icmp .ge 48, 3) := by decide +kernel
theorem dX10_laysTall_10 : decode cX10_laysTall 10 = .ok (.iconst 0, 1) := by decide +kernel
theorem dX10_laysTall_11 : decode cX10_laysTall 11 = .ok (.istore 4, 2) := by decide +kernel
theorem dX10_laysTall_13 : decode cX10_laysTall 13 = .ok (.iload 4, 2) := by decide +kernel
theorem dX10_laysTall_15 : decode cX10_laysTall 15 = .ok (.aload_n 0, 1) := by decide +kernel
theorem dX10_laysTall_16 : decode cX10_laysTall 16 = .ok (.invokevirtual 105, 3) := by decide +kernel
theorem dX10_laysTall_19 : decode cX10_laysTall 19 = .ok (.if_icmp .ge 30, 3) := by decide +kernel
theorem dX10_laysTall_22 : decode cX10_laysTall 22 = .ok (.aload_n 0, 1) := by decide +kernel
theorem dX10_laysTall_23 : decode cX10_laysTall 23 = .ok (.getfield 58, 3) := by decide +kernel
theorem dX10_laysTall_26 : decode cX10_laysTall 26 = .ok (.iload_n 2, 1) := by decide +kernel
theorem dX10_laysTall_27 : decode cX10_laysTall 27 = .ok (.iload_n 3, 1) := by decide +kernel
theorem dX10_laysTall_28 : decode cX10_laysTall 28 = .ok (.iadd, 1) := by decide +kernel
theorem dX10_laysTall_29 : decode cX10_laysTall 29 = .ok (.iload 4, 2) := by decide +kernel
theorem dX10_laysTall_31 : decode cX10_laysTall 31 = .ok (.invokestatic 254, 3) := by decide +kernel
theorem dX10_laysTall_34 : decode cX10_laysTall 34 = .ok (.aload_n 1, 1) := by decide +kernel
theorem dX10_laysTall_35 : decode cX10_laysTall 35 = .ok (.iload_n 3, 1) := by decide +kernel
theorem dX10_laysTall_36 : decode cX10_laysTall 36 = .ok (.iload 4, 2) := by decide +kernel
theorem dX10_laysTall_38 : decode cX10_laysTall 38 = .ok (.invokestatic 254, 3) := by decide +kernel
theorem dX10_laysTall_41 : decode cX10_laysTall 41 = .ok (.iaload, 1) := by decide +kernel
theorem dX10_laysTall_42 : decode cX10_laysTall 42 = .ok (.iastore, 1) := by decide +kernel
theorem dX10_laysTall_43 : decode cX10_laysTall 43 = .ok (.iinc 4 1, 3) := by decide +kernel
theorem dX10_laysTall_46 : decode cX10_laysTall 46 = .ok (.goto (-33), 3) := by decide +kernel
theorem dX10_laysTall_49 : decode cX10_laysTall 49 = .ok (.iinc 3 1, 3) := by decide +kernel
theorem dX10_laysTall_52 : decode cX10_laysTall 52 = .ok (.goto (-50), 3) := by decide +kernel
theorem dX10_laysTall_55 : decode cX10_laysTall 55 = .ok (.return_, 1) := by decide +kernel
theorem dX10_times_0 : decode cX10_times 0 = .ok (.aload_n 0, 1) := by decide +kernel
theorem dX10_times_1 : decode cX10_times 1 = .ok (.invokevirtual 261, 3) := by decide +kernel
theorem dX10_times_4 : decode cX10_times 4 = .ok (.aload_n 0, 1) := by decide +kernel
theorem dX10_times_5 : decode cX10_times 5 = .ok (.aload_n 0, 1) := by decide +kernel
theorem dX10_times_6 : decode cX10_times 6 = .ok (.getfield 43, 3) := by decide +kernel
theorem dX10_times_9 : decode cX10_times 9 = .ok (.iload_n 1, 1) := by decide +kernel
theorem dX10_times_10 : decode cX10_times 10 = .ok (.invokevirtual 295, 3) := by decide +kernel
theorem dX10_times_13 : decode cX10_times 13 = .ok (.aload_n 0, 1) := by decide +kernel
theorem dX10_times_14 : decode cX10_times 14 = .ok (.aload_n 0, 1) := by decide +kernel
theorem dX10_times_15 : decode cX10_times 15 = .ok (.getfield 46, 3) := by decide +kernel
theorem dX10_times_18 : decode cX10_times 18 = .ok (.iload_n 2, 1) := by decide +kernel
theorem dX10_times_19 : decode cX10_times 19 = .ok (.invokevirtual 295, 3) := by decide +kernel
theorem dX10_times_22 : decode cX10_times 22 = .ok (.aload_n 0, 1) := by decide +kernel
theorem dX10_times_23 : decode cX10_times 23 = .ok (.aload_n 0, 1) := by decide +kernel
theorem dX10_times_24 : decode cX10_times 24 = .ok (.getfield 43, 3) := by decide +kernel
theorem dX10_times_27 : decode cX10_times 27 = .ok (.aload_n 0, 1) := by decide +kernel
theorem dX10_times_28 : decode cX10_times 28 = .ok (.invokevirtual 105, 3) := by decide +kernel
theorem dX10_times_31 : decode cX10_times 31 = .ok (.invokevirtual 279, 3) := by decide +kernel
theorem dX10_times_34 : decode cX10_times 34 = .ok (.aload_n 0, 1) := by decide +kernel
theorem dX10_times_35 : decode cX10_times 35 = .ok (.aload_n 0, 1) := by decide +kernel
theorem dX10_times_36 : decode cX10_times 36 = .ok (.getfield 49, 3) := by decide +kernel
theorem dX10_times_39 : decode cX10_times 39 = .ok (.iconst 0, 1) := by decide +kernel
theorem dX10_times_40 : decode cX10_times 40 = .ok (.invokevirtual 298, 3) := by decide +kernel
theorem dX10_times_43 : decode cX10_times 43 = .ok (.aload_n 0, 1) := by decide +kernel
theorem dX10_times_44 : decode cX10_times 44 = .ok (.aload_n 0, 1) := by decide +kernel
theorem dX10_times_45 : decode cX10_times 45 = .ok (.getfield 46, 3) := by decide +kernel
theorem dX10_times_48 : decode cX10_times 48 = .ok (.aload_n 0, 1) := by decide +kernel
theorem dX10_times_49 : decode cX10_times 49 = .ok (.invokevirtual 105, 3) := by decide +kernel
theorem dX10_times_52 : decode cX10_times 52 = .ok (.invokevirtual 279, 3) := by decide +kernel
theorem dX10_times_55 : decode cX10_times 55 = .ok (.aload_n 0, 1) := by decide +kernel
theorem dX10_times_56 : decode cX10_times 56 = .ok (.aload_n 0, 1) := by decide +kernel
theorem dX10_times_57 : decode cX10_times 57 = .ok (.getfield 49, 3) := by decide +kernel
theorem dX10_times_60 : decode cX10_times 60 = .ok (.aload_n 0, 1) := by decide +kernel
theorem dX10_times_61 : decode cX10_times 61 = .ok (.invokevirtual 105, 3) := by decide +kernel
theorem dX10_times_64 : decode cX10_times 64 = .ok (.invokevirtual 298, 3) := by decide +kernel
theorem dX10_times_67 : decode cX10_times 67 = .ok (.aload_n 0, 1) := by decide +kernel
theorem dX10_times_68 : decode cX10_times 68 = .ok (.iconst 2, 1) := by decide +kernel
theorem dX10_times_69 : decode cX10_times 69 = .ok (.aload_n 0, 1) := by decide +kernel
theorem dX10_times_70 : decode cX10_times 70 = .ok (.invokevirtual 105, 3) := by decide +kernel
theorem dX10_times_73 : decode cX10_times 73 = .ok (.imul, 1) := by decide +kernel
theorem dX10_times_74 : decode cX10_times 74 = .ok (.invokevirtual 301, 3) := by decide +kernel
theorem dX10_times_77 : decode cX10_times 77 = .ok (.aload_n 0, 1) := by decide +kernel
theorem dX10_times_78 : decode cX10_times 78 = .ok (.invokevirtual 105, 3) := by decide +kernel
theorem dX10_times_81 : decode cX10_times 81 = .ok (.aload_n 0, 1) := by decide +kernel
theorem dX10_times_82 : decode cX10_times 82 = .ok (.getfield 283, 3) := by decide +kernel
theorem dX10_times_85 : decode cX10_times 85 = .ok (.isub, 1) := by decide +kernel
theorem dX10_times_86 : decode cX10_times 86 = .ok (.ireturn, 1) := by decide +kernel
theorem dX10_distinct_0 : decode cX10_distinct 0 = .ok (.aload_n 0, 1) := by decide +kernel
theorem dX10_distinct_1 : decode cX10_distinct 1 = .ok (.invokevirtual 261, 3) := by decide +kernel
theorem dX10_distinct_4 : decode cX10_distinct 4 = .ok (.iconst 0, 1) := by decide +kernel
theorem dX10_distinct_5 : decode cX10_distinct 5 = .ok (.istore_n 1, 1) := by decide +kernel
theorem dX10_distinct_6 : decode cX10_distinct 6 = .ok (.iload_n 1, 1) := by decide +kernel
theorem dX10_distinct_7 : decode cX10_distinct 7 = .ok (.aload_n 0, 1) := by decide +kernel
theorem dX10_distinct_8 : decode cX10_distinct 8 = .ok (.invokevirtual 105, 3) := by decide +kernel
theorem dX10_distinct_11 : decode cX10_distinct 11 = .ok (.if_icmp .ge 75, 3) := by decide +kernel
theorem dX10_distinct_14 : decode cX10_distinct 14 = .ok (.iconst 0, 1) := by decide +kernel
theorem dX10_distinct_15 : decode cX10_distinct 15 = .ok (.istore_n 2, 1) := by decide +kernel
theorem dX10_distinct_16 : decode cX10_distinct 16 = .ok (.iload_n 2, 1) := by decide +kernel
theorem dX10_distinct_17 : decode cX10_distinct 17 = .ok (.aload_n 0, 1) := by decide +kernel
theorem dX10_distinct_18 : decode cX10_distinct 18 = .ok (.invokevirtual 105, 3) := by decide +kernel
theorem dX10_distinct_21 : decode cX10_distinct 21 = .ok (.if_icmp .ge 59, 3) := by decide +kernel
theorem dX10_distinct_24 : decode cX10_distinct 24 = .ok (.aload_n 0, 1) := by decide +kernel
theorem dX10_distinct_25 : decode cX10_distinct 25 = .ok (.getfield 58, 3) := by decide +kernel
theorem dX10_distinct_28 : decode cX10_distinct 28 = .ok (.iload_n 1, 1) := by decide +kernel
theorem dX10_distinct_29 : decode cX10_distinct 29 = .ok (.iload_n 2, 1) := by decide +kernel
theorem dX10_distinct_30 : decode cX10_distinct 30 = .ok (.invokestatic 254, 3) := by decide +kernel
theorem dX10_distinct_33 : decode cX10_distinct 33 = .ok (.aload_n 0, 1) := by decide +kernel
theorem dX10_distinct_34 : decode cX10_distinct 34 = .ok (.aload_n 0, 1) := by decide +kernel
theorem dX10_distinct_35 : decode cX10_distinct 35 = .ok (.getfield 7, 3) := by decide +kernel
theorem dX10_distinct_38 : decode cX10_distinct 38 = .ok (.iconst 4, 1) := by decide +kernel
theorem dX10_distinct_39 : decode cX10_distinct 39 = .ok (.iload_n 1, 1) := by decide +kernel
theorem dX10_distinct_40 : decode cX10_distinct 40 = .ok (.iadd, 1) := by decide +kernel
theorem dX10_distinct_41 : decode cX10_distinct 41 = .ok (.iaload, 1) := by decide +kernel
theorem dX10_distinct_42 : decode cX10_distinct 42 = .ok (.aload_n 0, 1) := by decide +kernel
theorem dX10_distinct_43 : decode cX10_distinct 43 = .ok (.getfield 7, 3) := by decide +kernel
theorem dX10_distinct_46 : decode cX10_distinct 46 = .ok (.iconst 4, 1) := by decide +kernel
theorem dX10_distinct_47 : decode cX10_distinct 47 = .ok (.iload_n 2, 1) := by decide +kernel
theorem dX10_distinct_48 : decode cX10_distinct 48 = .ok (.iadd, 1) := by decide +kernel
theorem dX10_distinct_49 : decode cX10_distinct 49 = .ok (.iaload, 1) := by decide +kernel
theorem dX10_distinct_50 : decode cX10_distinct 50 = .ok (.iadd, 1) := by decide +kernel
theorem dX10_distinct_51 : decode cX10_distinct 51 = .ok (.aload_n 0, 1) := by decide +kernel
theorem dX10_distinct_52 : decode cX10_distinct 52 = .ok (.getfield 7, 3) := by decide +kernel
theorem dX10_distinct_55 : decode cX10_distinct 55 = .ok (.bipush 16, 2) := by decide +kernel
theorem dX10_distinct_57 : decode cX10_distinct 57 = .ok (.iload_n 1, 1) := by decide +kernel
theorem dX10_distinct_58 : decode cX10_distinct 58 = .ok (.iadd, 1) := by decide +kernel
theorem dX10_distinct_59 : decode cX10_distinct 59 = .ok (.iaload, 1) := by decide +kernel
theorem dX10_distinct_60 : decode cX10_distinct 60 = .ok (.aload_n 0, 1) := by decide +kernel
theorem dX10_distinct_61 : decode cX10_distinct 61 = .ok (.getfield 7, 3) := by decide +kernel
theorem dX10_distinct_64 : decode cX10_distinct 64 = .ok (.bipush 16, 2) := by decide +kernel
theorem dX10_distinct_66 : decode cX10_distinct 66 = .ok (.iload_n 2, 1) := by decide +kernel
theorem dX10_distinct_67 : decode cX10_distinct 67 = .ok (.iadd, 1) := by decide +kernel
theorem dX10_distinct_68 : decode cX10_distinct 68 = .ok (.iaload, 1) := by decide +kernel
theorem dX10_distinct_69 : decode cX10_distinct 69 = .ok (.iadd, 1) := by decide +kernel
theorem dX10_distinct_70 : decode cX10_distinct 70 = .ok (.invokevirtual 304, 3) := by decide +kernel
theorem dX10_distinct_73 : decode cX10_distinct 73 = .ok (.iastore, 1) := by decide +kernel
theorem dX10_distinct_74 : decode cX10_distinct 74 = .ok (.iinc 2 1, 3) := by decide +kernel
theorem dX10_distinct_77 : decode cX10_distinct 77 = .ok (.goto (-61), 3) := by decide +kernel
theorem dX10_distinct_80 : decode cX10_distinct 80 = .ok (.iinc 1 1, 3) := by decide +kernel
theorem dX10_distinct_83 : decode cX10_distinct 83 = .ok (.goto (-77), 3) := by decide +kernel
theorem dX10_distinct_86 : decode cX10_distinct 86 = .ok (.aload_n 0, 1) := by decide +kernel
theorem dX10_distinct_87 : decode cX10_distinct 87 = .ok (.aload_n 0, 1) := by decide +kernel
theorem dX10_distinct_88 : decode cX10_distinct 88 = .ok (.invokevirtual 105, 3) := by decide +kernel
theorem dX10_distinct_91 : decode cX10_distinct 91 = .ok (.invokevirtual 301, 3) := by decide +kernel
theorem dX10_distinct_94 : decode cX10_distinct 94 = .ok (.aload_n 0, 1) := by decide +kernel
theorem dX10_distinct_95 : decode cX10_distinct 95 = .ok (.getfield 283, 3) := by decide +kernel
theorem dX10_distinct_98 : decode cX10_distinct 98 = .ok (.ireturn, 1) := by decide +kernel
theorem dX10_laysNormal_0 : decode cX10_laysNormal 0 = .ok (.iconst 0, 1) := by decide +kernel
theorem dX10_laysNormal_1 : decode cX10_laysNormal 1 = .ok (.istore_n 3, 1) := by decide +kernel
theorem dX10_laysNormal_2 : decode cX10_laysNormal 2 = .ok (.iload_n 3, 1) := by decide +kernel
theorem dX10_laysNormal_3 : decode cX10_laysNormal 3 = .ok (.bipush 12, 2) := by decide +kernel
theorem dX10_laysNormal_5 : decode cX10_laysNormal 5 = .ok (.if_icmp .ge 24, 3) := by decide +kernel
theorem dX10_laysNormal_8 : decode cX10_laysNormal 8 = .ok (.aload_n 0, 1) := by decide +kernel
theorem dX10_laysNormal_9 : decode cX10_laysNormal 9 = .ok (.getfield 61, 3) := by decide +kernel
theorem dX10_laysNormal_12 : decode cX10_laysNormal 12 = .ok (.iload_n 3, 1) := by decide +kernel
theorem dX10_laysNormal_13 : decode cX10_laysNormal 13 = .ok (.iload_n 3, 1) := by decide +kernel
theorem dX10_laysNormal_14 : decode cX10_laysNormal 14 = .ok (.ifCond .ne 7, 3) := by decide +kernel
theorem dX10_laysNormal_17 : decode cX10_laysNormal 17 = .ok (.iconst 1, 1) := by decide +kernel
theorem dX10_laysNormal_18 : decode cX10_laysNormal 18 = .ok (.goto 4, 3) := by decide +kernel
theorem dX10_laysNormal_21 : decode cX10_laysNormal 21 = .ok (.iconst 0, 1) := by decide +kernel
theorem dX10_laysNormal_22 : decode cX10_laysNormal 22 = .ok (.iastore, 1) := by decide +kernel
theorem dX10_laysNormal_23 : decode cX10_laysNormal 23 = .ok (.iinc 3 1, 3) := by decide +kernel
theorem dX10_laysNormal_26 : decode cX10_laysNormal 26 = .ok (.goto (-24), 3) := by decide +kernel
theorem dX10_laysNormal_29 : decode cX10_laysNormal 29 = .ok (.iconst 0, 1) := by decide +kernel
theorem dX10_laysNormal_30 : decode cX10_laysNormal 30 = .ok (.istore_n 3, 1) := by decide +kernel
theorem dX10_laysNormal_31 : decode cX10_laysNormal 31 = .ok (.iload_n 3, 1) := by decide +kernel
theorem dX10_laysNormal_32 : decode cX10_laysNormal 32 = .ok (.iload_n 1, 1) := by decide +kernel
theorem dX10_laysNormal_33 : decode cX10_laysNormal 33 = .ok (.iload_n 2, 1) := by decide +kernel
theorem dX10_laysNormal_34 : decode cX10_laysNormal 34 = .ok (.iadd, 1) := by decide +kernel
theorem dX10_laysNormal_35 : decode cX10_laysNormal 35 = .ok (.if_icmp .ge 29, 3) := by decide +kernel
theorem dX10_laysNormal_38 : decode cX10_laysNormal 38 = .ok (.aload_n 0, 1) := by decide +kernel
theorem dX10_laysNormal_39 : decode cX10_laysNormal 39 = .ok (.iload_n 3, 1) := by decide +kernel
theorem dX10_laysNormal_40 : decode cX10_laysNormal 40 = .ok (.iload_n 2, 1) := by decide +kernel
theorem dX10_laysNormal_41 : decode cX10_laysNormal 41 = .ok (.if_icmp .ge 10, 3) := by decide +kernel
theorem dX10_laysNormal_44 : decode cX10_laysNormal 44 = .ok (.aload_n 0, 1) := by decide +kernel
theorem dX10_laysNormal_45 : decode cX10_laysNormal 45 = .ok (.getfield 46, 3) := by decide +kernel
theorem dX10_laysNormal_48 : decode cX10_laysNormal 48 = .ok (.goto 7, 3) := by decide +kernel
theorem dX10_laysNormal_51 : decode cX10_laysNormal 51 = .ok (.aload_n 0, 1) := by decide +kernel
theorem dX10_laysNormal_52 : decode cX10_laysNormal 52 = .ok (.getfield 43, 3) := by decide +kernel
theorem dX10_laysNormal_55 : decode cX10_laysNormal 55 = .ok (.invokevirtual 307, 3) := by decide +kernel
theorem dX10_laysNormal_58 : decode cX10_laysNormal 58 = .ok (.iinc 3 1, 3) := by decide +kernel
theorem dX10_laysNormal_61 : decode cX10_laysNormal 61 = .ok (.goto (-30), 3) := by decide +kernel
theorem dX10_laysNormal_64 : decode cX10_laysNormal 64 = .ok (.return_, 1) := by decide +kernel
theorem dX10_applies_0 : decode cX10_applies 0 = .ok (.iconst 0, 1) := by decide +kernel
theorem dX10_applies_1 : decode cX10_applies 1 = .ok (.istore_n 2, 1) := by decide +kernel
theorem dX10_applies_2 : decode cX10_applies 2 = .ok (.iload_n 2, 1) := by decide +kernel
theorem dX10_applies_3 : decode cX10_applies 3 = .ok (.aload_n 0, 1) := by decide +kernel
theorem dX10_applies_4 : decode cX10_applies 4 = .ok (.invokevirtual 105, 3) := by decide +kernel
theorem dX10_applies_7 : decode cX10_applies 7 = .ok (.if_icmp .ge 60, 3) := by decide +kernel
theorem dX10_applies_10 : decode cX10_applies 10 = .ok (.iconst 0, 1) := by decide +kernel
theorem dX10_applies_11 : decode cX10_applies 11 = .ok (.istore_n 3, 1) := by decide +kernel
theorem dX10_applies_12 : decode cX10_applies 12 = .ok (.iconst 0, 1) := by decide +kernel
theorem dX10_applies_13 : decode cX10_applies 13 = .ok (.istore 4, 2) := by decide +kernel
theorem dX10_applies_15 : decode cX10_applies 15 = .ok (.iload 4, 2) := by decide +kernel
theorem dX10_applies_17 : decode cX10_applies 17 = .ok (.aload_n 0, 1) := by decide +kernel
theorem dX10_applies_18 : decode cX10_applies 18 = .ok (.invokevirtual 105, 3) := by decide +kernel
theorem dX10_applies_21 : decode cX10_applies 21 = .ok (.if_icmp .ge 28, 3) := by decide +kernel
theorem dX10_applies_24 : decode cX10_applies 24 = .ok (.iload_n 3, 1) := by decide +kernel
theorem dX10_applies_25 : decode cX10_applies 25 = .ok (.aload_n 1, 1) := by decide +kernel
theorem dX10_applies_26 : decode cX10_applies 26 = .ok (.iload_n 2, 1) := by decide +kernel
theorem dX10_applies_27 : decode cX10_applies 27 = .ok (.iload 4, 2) := by decide +kernel
theorem dX10_applies_29 : decode cX10_applies 29 = .ok (.invokestatic 254, 3) := by decide +kernel
theorem dX10_applies_32 : decode cX10_applies 32 = .ok (.iaload, 1) := by decide +kernel
theorem dX10_applies_33 : decode cX10_applies 33 = .ok (.aload_n 0, 1) := by decide +kernel
theorem dX10_applies_34 : decode cX10_applies 34 = .ok (.getfield 61, 3) := by decide +kernel
theorem dX10_applies_37 : decode cX10_applies 37 = .ok (.iload 4, 2) := by decide +kernel
theorem dX10_applies_39 : decode cX10_applies 39 = .ok (.iaload, 1) := by decide +kernel
theorem dX10_applies_40 : decode cX10_applies 40 = .ok (.imul, 1) := by decide +kernel
theorem dX10_applies_41 : decode cX10_applies 41 = .ok (.iadd, 1) := by decide +kernel
theorem dX10_applies_42 : decode cX10_applies 42 = .ok (.istore_n 3, 1) := by decide +kernel
theorem dX10_applies_43 : decode cX10_applies 43 = .ok (.iinc 4 1, 3) := by decide +kernel
theorem dX10_applies_46 : decode cX10_applies 46 = .ok (.goto (-31), 3) := by decide +kernel
theorem dX10_applies_49 : decode cX10_applies 49 = .ok (.aload_n 0, 1) := by decide +kernel
theorem dX10_applies_50 : decode cX10_applies 50 = .ok (.getfield 64, 3) := by decide +kernel
theorem dX10_applies_53 : decode cX10_applies 53 = .ok (.iload_n 2, 1) := by decide +kernel
theorem dX10_applies_54 : decode cX10_applies 54 = .ok (.iload_n 3, 1) := by decide +kernel
theorem dX10_applies_55 : decode cX10_applies 55 = .ok (.aload_n 0, 1) := by decide +kernel
theorem dX10_applies_56 : decode cX10_applies 56 = .ok (.invokevirtual 97, 3) := by decide +kernel
theorem dX10_applies_59 : decode cX10_applies 59 = .ok (.irem, 1) := by decide +kernel
theorem dX10_applies_60 : decode cX10_applies 60 = .ok (.iastore, 1) := by decide +kernel
theorem dX10_applies_61 : decode cX10_applies 61 = .ok (.iinc 2 1, 3) := by decide +kernel
theorem dX10_applies_64 : decode cX10_applies 64 = .ok (.goto (-62), 3) := by decide +kernel
theorem dX10_applies_67 : decode cX10_applies 67 = .ok (.iconst 0, 1) := by decide +kernel
theorem dX10_applies_68 : decode cX10_applies 68 = .ok (.istore_n 2, 1) := by decide +kernel
theorem dX10_applies_69 : decode cX10_applies 69 = .ok (.iload_n 2, 1) := by decide +kernel
theorem dX10_applies_70 : decode cX10_applies 70 = .ok (.aload_n 0, 1) := by decide +kernel
theorem dX10_applies_71 : decode cX10_applies 71 = .ok (.invokevirtual 105, 3) := by decide +kernel
theorem dX10_applies_74 : decode cX10_applies 74 = .ok (.if_icmp .ge 21, 3) := by decide +kernel
theorem dX10_applies_77 : decode cX10_applies 77 = .ok (.aload_n 0, 1) := by decide +kernel
theorem dX10_applies_78 : decode cX10_applies 78 = .ok (.getfield 61, 3) := by decide +kernel
theorem dX10_applies_81 : decode cX10_applies 81 = .ok (.iload_n 2, 1) := by decide +kernel
theorem dX10_applies_82 : decode cX10_applies 82 = .ok (.aload_n 0, 1) := by decide +kernel
theorem dX10_applies_83 : decode cX10_applies 83 = .ok (.getfield 64, 3) := by decide +kernel
theorem dX10_applies_86 : decode cX10_applies 86 = .ok (.iload_n 2, 1) := by decide +kernel
theorem dX10_applies_87 : decode cX10_applies 87 = .ok (.iaload, 1) := by decide +kernel
theorem dX10_applies_88 : decode cX10_applies 88 = .ok (.iastore, 1) := by decide +kernel
theorem dX10_applies_89 : decode cX10_applies 89 = .ok (.iinc 2 1, 3) := by decide +kernel
theorem dX10_applies_92 : decode cX10_applies 92 = .ok (.goto (-23), 3) := by decide +kernel
theorem dX10_applies_95 : decode cX10_applies 95 = .ok (.return_, 1) := by decide +kernel
theorem dX10_reduce_0 : decode cX10_reduce 0 = .ok (.aload_n 0, 1) := by decide +kernel
theorem dX10_reduce_1 : decode cX10_reduce 1 = .ok (.invokevirtual 244, 3) := by decide +kernel
theorem dX10_reduce_4 : decode cX10_reduce 4 = .ok (.aload_n 0, 1) := by decide +kernel
theorem dX10_reduce_5 : decode cX10_reduce 5 = .ok (.invokevirtual 261, 3) := by decide +kernel
theorem dX10_reduce_8 : decode cX10_reduce 8 = .ok (.iconst 0, 1) := by decide +kernel
theorem dX10_reduce_9 : decode cX10_reduce 9 = .ok (.istore_n 1, 1) := by decide +kernel
theorem dX10_reduce_10 : decode cX10_reduce 10 = .ok (.iload_n 1, 1) := by decide +kernel
theorem dX10_reduce_11 : decode cX10_reduce 11 = .ok (.bipush 12, 2) := by decide +kernel
theorem dX10_reduce_13 : decode cX10_reduce 13 = .ok (.if_icmp .ge 16, 3) := by decide +kernel
theorem dX10_reduce_16 : decode cX10_reduce 16 = .ok (.aload_n 0, 1) := by decide +kernel
theorem dX10_reduce_17 : decode cX10_reduce 17 = .ok (.getfield 70, 3) := by decide +kernel
theorem dX10_reduce_20 : decode cX10_reduce 20 = .ok (.iload_n 1, 1) := by decide +kernel
theorem dX10_reduce_21 : decode cX10_reduce 21 = .ok (.iconst 0, 1) := by decide +kernel
theorem dX10_reduce_22 : decode cX10_reduce 22 = .ok (.iastore, 1) := by decide +kernel
theorem dX10_reduce_23 : decode cX10_reduce 23 = .ok (.iinc 1 1, 3) := by decide +kernel
theorem dX10_reduce_26 : decode cX10_reduce 26 = .ok (.goto (-16), 3) := by decide +kernel
theorem dX10_reduce_29 : decode cX10_reduce 29 = .ok (.iconst 1, 1) := by decide +kernel
theorem dX10_reduce_30 : decode cX10_reduce 30 = .ok (.istore_n 1, 1) := by decide +kernel
theorem dX10_reduce_31 : decode cX10_reduce 31 = .ok (.iload_n 1, 1) := by decide +kernel
theorem dX10_reduce_32 : decode cX10_reduce 32 = .ok (.ifCond .eq 45, 3) := by decide +kernel
theorem dX10_reduce_35 : decode cX10_reduce 35 = .ok (.aload_n 0, 1) := by decide +kernel
theorem dX10_reduce_36 : decode cX10_reduce 36 = .ok (.bipush 20, 2) := by decide +kernel
theorem dX10_reduce_38 : decode cX10_reduce 38 = .ok (.invokevirtual 220, 3) := by decide +kernel
theorem dX10_reduce_41 : decode cX10_reduce 41 = .ok (.aload_n 0, 1) := by decide +kernel
theorem dX10_reduce_42 : decode cX10_reduce 42 = .ok (.iconst 0, 1) := by decide +kernel
theorem dX10_reduce_43 : decode cX10_reduce 43 = .ok (.bipush 20, 2) := by decide +kernel
theorem dX10_reduce_45 : decode cX10_reduce 45 = .ok (.invokevirtual 196, 3) := by decide +kernel
theorem dX10_reduce_48 : decode cX10_reduce 48 = .ok (.istore_n 2, 1) := by decide +kernel
theorem dX10_reduce_49 : decode cX10_reduce 49 = .ok (.aload_n 0, 1) := by decide +kernel
theorem dX10_reduce_50 : decode cX10_reduce 50 = .ok (.getfield 175, 3) := by decide +kernel
theorem dX10_reduce_53 : decode cX10_reduce 53 = .ok (.ifCond .ne 16, 3) := by decide +kernel
theorem dX10_reduce_56 : decode cX10_reduce 56 = .ok (.aload_n 0, 1) := by decide +kernel
theorem dX10_reduce_57 : decode cX10_reduce 57 = .ok (.aload_n 0, 1) := by decide +kernel
theorem dX10_reduce_58 : decode cX10_reduce 58 = .ok (.getfield 211, 3) := by decide +kernel
theorem dX10_reduce_61 : decode cX10_reduce 61 = .ok (.iload_n 2, 1) := by decide +kernel
theorem dX10_reduce_62 : decode cX10_reduce 62 = .ok (.invokevirtual 310, 3) := by decide +kernel
theorem dX10_reduce_65 : decode cX10_reduce 65 = .ok (.aload_n 0, 1) := by decide +kernel
theorem dX10_reduce_66 : decode cX10_reduce 66 = .ok (.invokevirtual 313, 3) := by decide +kernel
theorem dX10_reduce_69 : decode cX10_reduce 69 = .ok (.aload_n 0, 1) := by decide +kernel
theorem dX10_reduce_70 : decode cX10_reduce 70 = .ok (.invokevirtual 223, 3) := by decide +kernel
theorem dX10_reduce_73 : decode cX10_reduce 73 = .ok (.istore_n 1, 1) := by decide +kernel
theorem dX10_reduce_74 : decode cX10_reduce 74 = .ok (.goto (-43), 3) := by decide +kernel
theorem dX10_reduce_77 : decode cX10_reduce 77 = .ok (.aload_n 0, 1) := by decide +kernel
theorem dX10_reduce_78 : decode cX10_reduce 78 = .ok (.aload_n 0, 1) := by decide +kernel
theorem dX10_reduce_79 : decode cX10_reduce 79 = .ok (.getfield 169, 3) := by decide +kernel
theorem dX10_reduce_82 : decode cX10_reduce 82 = .ok (.ifCond .ne 7, 3) := by decide +kernel
theorem dX10_reduce_85 : decode cX10_reduce 85 = .ok (.iconst 1, 1) := by decide +kernel
theorem dX10_reduce_86 : decode cX10_reduce 86 = .ok (.goto 4, 3) := by decide +kernel
theorem dX10_reduce_89 : decode cX10_reduce 89 = .ok (.iconst 0, 1) := by decide +kernel
theorem dX10_reduce_90 : decode cX10_reduce 90 = .ok (.iconst 1, 1) := by decide +kernel
theorem dX10_reduce_91 : decode cX10_reduce 91 = .ok (.invokevirtual 192, 3) := by decide +kernel
theorem dX10_reduce_94 : decode cX10_reduce 94 = .ok (.aload_n 0, 1) := by decide +kernel
theorem dX10_reduce_95 : decode cX10_reduce 95 = .ok (.iconst 0, 1) := by decide +kernel
theorem dX10_reduce_96 : decode cX10_reduce 96 = .ok (.putfield 146, 3) := by decide +kernel
theorem dX10_reduce_99 : decode cX10_reduce 99 = .ok (.aload_n 0, 1) := by decide +kernel
theorem dX10_reduce_100 : decode cX10_reduce 100 = .ok (.iconst 0, 1) := by decide +kernel
theorem dX10_reduce_101 : decode cX10_reduce 101 = .ok (.putfield 91, 3) := by decide +kernel
theorem dX10_reduce_104 : decode cX10_reduce 104 = .ok (.aload_n 0, 1) := by decide +kernel
theorem dX10_reduce_105 : decode cX10_reduce 105 = .ok (.getfield 175, 3) := by decide +kernel
theorem dX10_reduce_108 : decode cX10_reduce 108 = .ok (.ifCond .le 5, 3) := by decide +kernel
theorem dX10_reduce_111 : decode cX10_reduce 111 = .ok (.iconst (-1), 1) := by decide +kernel
theorem dX10_reduce_112 : decode cX10_reduce 112 = .ok (.ireturn, 1) := by decide +kernel
theorem dX10_reduce_113 : decode cX10_reduce 113 = .ok (.iconst 0, 1) := by decide +kernel
theorem dX10_reduce_114 : decode cX10_reduce 114 = .ok (.istore_n 2, 1) := by decide +kernel
theorem dX10_reduce_115 : decode cX10_reduce 115 = .ok (.iconst 0, 1) := by decide +kernel
theorem dX10_reduce_116 : decode cX10_reduce 116 = .ok (.istore_n 3, 1) := by decide +kernel
theorem dX10_reduce_117 : decode cX10_reduce 117 = .ok (.iload_n 3, 1) := by decide +kernel
theorem dX10_reduce_118 : decode cX10_reduce 118 = .ok (.bipush 12, 2) := by decide +kernel
theorem dX10_reduce_120 : decode cX10_reduce 120 = .ok (.if_icmp .ge 38, 3) := by decide +kernel
theorem dX10_reduce_123 : decode cX10_reduce 123 = .ok (.aload_n 0, 1) := by decide +kernel
theorem dX10_reduce_124 : decode cX10_reduce 124 = .ok (.getfield 67, 3) := by decide +kernel
theorem dX10_reduce_127 : decode cX10_reduce 127 = .ok (.iload_n 3, 1) := by decide +kernel
theorem dX10_reduce_128 : decode cX10_reduce 128 = .ok (.aload_n 0, 1) := by decide +kernel
theorem dX10_reduce_129 : decode cX10_reduce 129 = .ok (.getfield 70, 3) := by decide +kernel
theorem dX10_reduce_132 : decode cX10_reduce 132 = .ok (.iload_n 3, 1) := by decide +kernel
theorem dX10_reduce_133 : decode cX10_reduce 133 = .ok (.iaload, 1) := by decide +kernel
theorem dX10_reduce_134 : decode cX10_reduce 134 = .ok (.iastore, 1) := by decide +kernel
theorem dX10_reduce_135 : decode cX10_reduce 135 = .ok (.iload_n 2, 1) := by decide +kernel
theorem dX10_reduce_136 : decode cX10_reduce 136 = .ok (.aload_n 0, 1) := by decide +kernel
theorem dX10_reduce_137 : decode cX10_reduce 137 = .ok (.getfield 70, 3) := by decide +kernel
theorem dX10_reduce_140 : decode cX10_reduce 140 = .ok (.iload_n 3, 1) := by decide +kernel
theorem dX10_reduce_141 : decode cX10_reduce 141 = .ok (.iaload, 1) := by decide +kernel
theorem dX10_reduce_142 : decode cX10_reduce 142 = .ok (.ifCond .le 7, 3) := by decide +kernel
theorem dX10_reduce_145 : decode cX10_reduce 145 = .ok (.iconst 1, 1) := by decide +kernel
theorem dX10_reduce_146 : decode cX10_reduce 146 = .ok (.goto 4, 3) := by decide +kernel
theorem dX10_reduce_149 : decode cX10_reduce 149 = .ok (.iconst 0, 1) := by decide +kernel
theorem dX10_reduce_150 : decode cX10_reduce 150 = .ok (.iadd, 1) := by decide +kernel
theorem dX10_reduce_151 : decode cX10_reduce 151 = .ok (.istore_n 2, 1) := by decide +kernel
theorem dX10_reduce_152 : decode cX10_reduce 152 = .ok (.iinc 3 1, 3) := by decide +kernel
theorem dX10_reduce_155 : decode cX10_reduce 155 = .ok (.goto (-38), 3) := by decide +kernel
theorem dX10_reduce_158 : decode cX10_reduce 158 = .ok (.iload_n 2, 1) := by decide +kernel
theorem dX10_reduce_159 : decode cX10_reduce 159 = .ok (.ireturn, 1) := by decide +kernel
theorem dX10_addsColumn_0 : decode cX10_addsColumn 0 = .ok (.iconst 0, 1) := by decide +kernel
theorem dX10_addsColumn_1 : decode cX10_addsColumn 1 = .ok (.istore_n 1, 1) := by decide +kernel
theorem dX10_addsColumn_2 : decode cX10_addsColumn 2 = .ok (.iload_n 1, 1) := by decide +kernel
theorem dX10_addsColumn_3 : decode cX10_addsColumn 3 = .ok (.aload_n 0, 1) := by decide +kernel
theorem dX10_addsColumn_4 : decode cX10_addsColumn 4 = .ok (.invokevirtual 105, 3) := by decide +kernel
theorem dX10_addsColumn_7 : decode cX10_addsColumn 7 = .ok (.if_icmp .ge 38, 3) := by decide +kernel
theorem dX10_addsColumn_10 : decode cX10_addsColumn 10 = .ok (.aload_n 0, 1) := by decide +kernel
theorem dX10_addsColumn_11 : decode cX10_addsColumn 11 = .ok (.getfield 70, 3) := by decide +kernel
theorem dX10_addsColumn_14 : decode cX10_addsColumn 14 = .ok (.iload_n 1, 1) := by decide +kernel
theorem dX10_addsColumn_15 : decode cX10_addsColumn 15 = .ok (.aload_n 0, 1) := by decide +kernel
theorem dX10_addsColumn_16 : decode cX10_addsColumn 16 = .ok (.getfield 70, 3) := by decide +kernel
theorem dX10_addsColumn_19 : decode cX10_addsColumn 19 = .ok (.iload_n 1, 1) := by decide +kernel
theorem dX10_addsColumn_20 : decode cX10_addsColumn 20 = .ok (.iaload, 1) := by decide +kernel
theorem dX10_addsColumn_21 : decode cX10_addsColumn 21 = .ok (.aload_n 0, 1) := by decide +kernel
theorem dX10_addsColumn_22 : decode cX10_addsColumn 22 = .ok (.getfield 208, 3) := by decide +kernel
theorem dX10_addsColumn_25 : decode cX10_addsColumn 25 = .ok (.aload_n 0, 1) := by decide +kernel
theorem dX10_addsColumn_26 : decode cX10_addsColumn 26 = .ok (.getfield 61, 3) := by decide +kernel
theorem dX10_addsColumn_29 : decode cX10_addsColumn 29 = .ok (.iload_n 1, 1) := by decide +kernel
theorem dX10_addsColumn_30 : decode cX10_addsColumn 30 = .ok (.iaload, 1) := by decide +kernel
theorem dX10_addsColumn_31 : decode cX10_addsColumn 31 = .ok (.imul, 1) := by decide +kernel
theorem dX10_addsColumn_32 : decode cX10_addsColumn 32 = .ok (.iadd, 1) := by decide +kernel
theorem dX10_addsColumn_33 : decode cX10_addsColumn 33 = .ok (.aload_n 0, 1) := by decide +kernel
theorem dX10_addsColumn_34 : decode cX10_addsColumn 34 = .ok (.invokevirtual 97, 3) := by decide +kernel
theorem dX10_addsColumn_37 : decode cX10_addsColumn 37 = .ok (.irem, 1) := by decide +kernel
theorem dX10_addsColumn_38 : decode cX10_addsColumn 38 = .ok (.iastore, 1) := by decide +kernel
theorem dX10_addsColumn_39 : decode cX10_addsColumn 39 = .ok (.iinc 1 1, 3) := by decide +kernel
theorem dX10_addsColumn_42 : decode cX10_addsColumn 42 = .ok (.goto (-40), 3) := by decide +kernel
theorem dX10_addsColumn_45 : decode cX10_addsColumn 45 = .ok (.return_, 1) := by decide +kernel
theorem dX10_result_0 : decode cX10_result 0 = .ok (.aload_n 0, 1) := by decide +kernel
theorem dX10_result_1 : decode cX10_result 1 = .ok (.iload_n 1, 1) := by decide +kernel
theorem dX10_result_2 : decode cX10_result 2 = .ok (.iconst 0, 1) := by decide +kernel
theorem dX10_result_3 : decode cX10_result 3 = .ok (.bipush 11, 2) := by decide +kernel
theorem dX10_result_5 : decode cX10_result 5 = .ok (.invokestatic 101, 3) := by decide +kernel
theorem dX10_result_8 : decode cX10_result 8 = .ok (.ifCond .eq 7, 3) := by decide +kernel
theorem dX10_result_11 : decode cX10_result 11 = .ok (.iconst 0, 1) := by decide +kernel
theorem dX10_result_12 : decode cX10_result 12 = .ok (.goto 4, 3) := by decide +kernel
theorem dX10_result_15 : decode cX10_result 15 = .ok (.iconst 1, 1) := by decide +kernel
theorem dX10_result_16 : decode cX10_result 16 = .ok (.putfield 91, 3) := by decide +kernel
theorem dX10_result_19 : decode cX10_result 19 = .ok (.aload_n 0, 1) := by decide +kernel
theorem dX10_result_20 : decode cX10_result 20 = .ok (.getfield 91, 3) := by decide +kernel
theorem dX10_result_23 : decode cX10_result 23 = .ok (.ifCond .le 7, 3) := by decide +kernel
theorem dX10_result_26 : decode cX10_result 26 = .ok (.iconst 0, 1) := by decide +kernel
theorem dX10_result_27 : decode cX10_result 27 = .ok (.goto 9, 3) := by decide +kernel
theorem dX10_result_30 : decode cX10_result 30 = .ok (.aload_n 0, 1) := by decide +kernel
theorem dX10_result_31 : decode cX10_result 31 = .ok (.getfield 67, 3) := by decide +kernel
theorem dX10_result_34 : decode cX10_result 34 = .ok (.iload_n 1, 1) := by decide +kernel
theorem dX10_result_35 : decode cX10_result 35 = .ok (.iaload, 1) := by decide +kernel
theorem dX10_result_36 : decode cX10_result 36 = .ok (.ireturn, 1) := by decide +kernel
theorem dX10_laysPowers_0 : decode cX10_laysPowers 0 = .ok (.aload_n 0, 1) := by decide +kernel
theorem dX10_laysPowers_1 : decode cX10_laysPowers 1 = .ok (.getfield 73, 3) := by decide +kernel
theorem dX10_laysPowers_4 : decode cX10_laysPowers 4 = .ok (.iconst 0, 1) := by decide +kernel
theorem dX10_laysPowers_5 : decode cX10_laysPowers 5 = .ok (.iconst 1, 1) := by decide +kernel
theorem dX10_laysPowers_6 : decode cX10_laysPowers 6 = .ok (.iastore, 1) := by decide +kernel
theorem dX10_laysPowers_7 : decode cX10_laysPowers 7 = .ok (.aload_n 0, 1) := by decide +kernel
