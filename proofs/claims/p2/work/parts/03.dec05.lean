theorem dX11_nextToken_246 : decode cX11_nextToken 246 = .ok (.aload_n 0, 1) := by decide +kernel
theorem dX11_nextToken_247 : decode cX11_nextToken 247 = .ok (.getfield 52, 3) := by decide +kernel
theorem dX11_nextToken_250 : decode cX11_nextToken 250 = .ok (.aload_n 0, 1) := by decide +kernel
theorem dX11_nextToken_251 : decode cX11_nextToken 251 = .ok (.getfield 225, 3) := by decide +kernel
theorem dX11_nextToken_254 : decode cX11_nextToken 254 = .ok (.iaload, 1) := by decide +kernel
theorem dX11_nextToken_255 : decode cX11_nextToken 255 = .ok (.iadd, 1) := by decide +kernel
theorem dX11_nextToken_256 : decode cX11_nextToken 256 = .ok (.bipush 48, 2) := by decide +kernel
theorem dX11_nextToken_258 : decode cX11_nextToken 258 = .ok (.isub, 1) := by decide +kernel
theorem dX11_nextToken_259 : decode cX11_nextToken 259 = .ok (.goto 7, 3) := by decide +kernel
theorem dX11_nextToken_262 : decode cX11_nextToken 262 = .ok (.aload_n 0, 1) := by decide +kernel
theorem dX11_nextToken_263 : decode cX11_nextToken 263 = .ok (.getfield 243, 3) := by decide +kernel
theorem dX11_nextToken_266 : decode cX11_nextToken 266 = .ok (.putfield 243, 3) := by decide +kernel
theorem dX11_nextToken_269 : decode cX11_nextToken 269 = .ok (.aload_n 0, 1) := by decide +kernel
theorem dX11_nextToken_270 : decode cX11_nextToken 270 = .ok (.dup, 1) := by decide +kernel
theorem dX11_nextToken_271 : decode cX11_nextToken 271 = .ok (.getfield 225, 3) := by decide +kernel
theorem dX11_nextToken_274 : decode cX11_nextToken 274 = .ok (.iconst 1, 1) := by decide +kernel
theorem dX11_nextToken_275 : decode cX11_nextToken 275 = .ok (.iadd, 1) := by decide +kernel
theorem dX11_nextToken_276 : decode cX11_nextToken 276 = .ok (.putfield 225, 3) := by decide +kernel
theorem dX11_nextToken_279 : decode cX11_nextToken 279 = .ok (.goto (-65), 3) := by decide +kernel
theorem dX11_nextToken_282 : decode cX11_nextToken 282 = .ok (.aload_n 0, 1) := by decide +kernel
theorem dX11_nextToken_283 : decode cX11_nextToken 283 = .ok (.iload_n 1, 1) := by decide +kernel
theorem dX11_nextToken_284 : decode cX11_nextToken 284 = .ok (.ifCond .ne 16, 3) := by decide +kernel
theorem dX11_nextToken_287 : decode cX11_nextToken 287 = .ok (.aload_n 0, 1) := by decide +kernel
theorem dX11_nextToken_288 : decode cX11_nextToken 288 = .ok (.getfield 225, 3) := by decide +kernel
theorem dX11_nextToken_291 : decode cX11_nextToken 291 = .ok (.aload_n 0, 1) := by decide +kernel
theorem dX11_nextToken_292 : decode cX11_nextToken 292 = .ok (.getfield 231, 3) := by decide +kernel
theorem dX11_nextToken_295 : decode cX11_nextToken 295 = .ok (.isub, 1) := by decide +kernel
theorem dX11_nextToken_296 : decode cX11_nextToken 296 = .ok (.iconst 4, 1) := by decide +kernel
theorem dX11_nextToken_297 : decode cX11_nextToken 297 = .ok (.if_icmp .le 7, 3) := by decide +kernel
theorem dX11_nextToken_300 : decode cX11_nextToken 300 = .ok (.iconst 4, 1) := by decide +kernel
theorem dX11_nextToken_301 : decode cX11_nextToken 301 = .ok (.goto 4, 3) := by decide +kernel
theorem dX11_nextToken_304 : decode cX11_nextToken 304 = .ok (.iconst 2, 1) := by decide +kernel
theorem dX11_nextToken_305 : decode cX11_nextToken 305 = .ok (.putfield 228, 3) := by decide +kernel
theorem dX11_nextToken_308 : decode cX11_nextToken 308 = .ok (.goto 31, 3) := by decide +kernel
theorem dX11_nextToken_311 : decode cX11_nextToken 311 = .ok (.aload_n 0, 1) := by decide +kernel
theorem dX11_nextToken_312 : decode cX11_nextToken 312 = .ok (.iconst 3, 1) := by decide +kernel
theorem dX11_nextToken_313 : decode cX11_nextToken 313 = .ok (.putfield 228, 3) := by decide +kernel
theorem dX11_nextToken_316 : decode cX11_nextToken 316 = .ok (.aload_n 0, 1) := by decide +kernel
theorem dX11_nextToken_317 : decode cX11_nextToken 317 = .ok (.aload_n 0, 1) := by decide +kernel
theorem dX11_nextToken_318 : decode cX11_nextToken 318 = .ok (.getfield 52, 3) := by decide +kernel
theorem dX11_nextToken_321 : decode cX11_nextToken 321 = .ok (.aload_n 0, 1) := by decide +kernel
theorem dX11_nextToken_322 : decode cX11_nextToken 322 = .ok (.getfield 231, 3) := by decide +kernel
theorem dX11_nextToken_325 : decode cX11_nextToken 325 = .ok (.iaload, 1) := by decide +kernel
theorem dX11_nextToken_326 : decode cX11_nextToken 326 = .ok (.putfield 237, 3) := by decide +kernel
theorem dX11_nextToken_329 : decode cX11_nextToken 329 = .ok (.aload_n 0, 1) := by decide +kernel
theorem dX11_nextToken_330 : decode cX11_nextToken 330 = .ok (.dup, 1) := by decide +kernel
theorem dX11_nextToken_331 : decode cX11_nextToken 331 = .ok (.getfield 225, 3) := by decide +kernel
theorem dX11_nextToken_334 : decode cX11_nextToken 334 = .ok (.iconst 1, 1) := by decide +kernel
theorem dX11_nextToken_335 : decode cX11_nextToken 335 = .ok (.iadd, 1) := by decide +kernel
theorem dX11_nextToken_336 : decode cX11_nextToken 336 = .ok (.putfield 225, 3) := by decide +kernel
theorem dX11_nextToken_339 : decode cX11_nextToken 339 = .ok (.return_, 1) := by decide +kernel
theorem dX11_isSign_0 : decode cX11_isSign 0 = .ok (.aload_n 0, 1) := by decide +kernel
theorem dX11_isSign_1 : decode cX11_isSign 1 = .ok (.getfield 228, 3) := by decide +kernel
theorem dX11_isSign_4 : decode cX11_isSign 4 = .ok (.iconst 3, 1) := by decide +kernel
theorem dX11_isSign_5 : decode cX11_isSign 5 = .ok (.if_icmp .ne 15, 3) := by decide +kernel
theorem dX11_isSign_8 : decode cX11_isSign 8 = .ok (.aload_n 0, 1) := by decide +kernel
theorem dX11_isSign_9 : decode cX11_isSign 9 = .ok (.getfield 237, 3) := by decide +kernel
theorem dX11_isSign_12 : decode cX11_isSign 12 = .ok (.iload_n 1, 1) := by decide +kernel
theorem dX11_isSign_13 : decode cX11_isSign 13 = .ok (.if_icmp .ne 7, 3) := by decide +kernel
theorem dX11_isSign_16 : decode cX11_isSign 16 = .ok (.iconst 1, 1) := by decide +kernel
theorem dX11_isSign_17 : decode cX11_isSign 17 = .ok (.goto 4, 3) := by decide +kernel
theorem dX11_isSign_20 : decode cX11_isSign 20 = .ok (.iconst 0, 1) := by decide +kernel
theorem dX11_isSign_21 : decode cX11_isSign 21 = .ok (.ireturn, 1) := by decide +kernel
theorem dX11_isWordAt_0 : decode cX11_isWordAt 0 = .ok (.iload 4, 2) := by decide +kernel
theorem dX11_isWordAt_2 : decode cX11_isWordAt 2 = .ok (.ifCond .ne 7, 3) := by decide +kernel
theorem dX11_isWordAt_5 : decode cX11_isWordAt 5 = .ok (.iconst 3, 1) := by decide +kernel
theorem dX11_isWordAt_6 : decode cX11_isWordAt 6 = .ok (.goto 4, 3) := by decide +kernel
theorem dX11_isWordAt_9 : decode cX11_isWordAt 9 = .ok (.iconst 4, 1) := by decide +kernel
theorem dX11_isWordAt_10 : decode cX11_isWordAt 10 = .ok (.istore 5, 2) := by decide +kernel
theorem dX11_isWordAt_12 : decode cX11_isWordAt 12 = .ok (.aload_n 0, 1) := by decide +kernel
theorem dX11_isWordAt_13 : decode cX11_isWordAt 13 = .ok (.getfield 228, 3) := by decide +kernel
theorem dX11_isWordAt_16 : decode cX11_isWordAt 16 = .ok (.iconst 1, 1) := by decide +kernel
theorem dX11_isWordAt_17 : decode cX11_isWordAt 17 = .ok (.if_icmp .ne 85, 3) := by decide +kernel
theorem dX11_isWordAt_20 : decode cX11_isWordAt 20 = .ok (.aload_n 0, 1) := by decide +kernel
theorem dX11_isWordAt_21 : decode cX11_isWordAt 21 = .ok (.getfield 225, 3) := by decide +kernel
theorem dX11_isWordAt_24 : decode cX11_isWordAt 24 = .ok (.aload_n 0, 1) := by decide +kernel
theorem dX11_isWordAt_25 : decode cX11_isWordAt 25 = .ok (.getfield 231, 3) := by decide +kernel
theorem dX11_isWordAt_28 : decode cX11_isWordAt 28 = .ok (.isub, 1) := by decide +kernel
theorem dX11_isWordAt_29 : decode cX11_isWordAt 29 = .ok (.iload 5, 2) := by decide +kernel
theorem dX11_isWordAt_31 : decode cX11_isWordAt 31 = .ok (.if_icmp .ne 71, 3) := by decide +kernel
theorem dX11_isWordAt_34 : decode cX11_isWordAt 34 = .ok (.aload_n 0, 1) := by decide +kernel
theorem dX11_isWordAt_35 : decode cX11_isWordAt 35 = .ok (.getfield 52, 3) := by decide +kernel
theorem dX11_isWordAt_38 : decode cX11_isWordAt 38 = .ok (.aload_n 0, 1) := by decide +kernel
theorem dX11_isWordAt_39 : decode cX11_isWordAt 39 = .ok (.getfield 231, 3) := by decide +kernel
theorem dX11_isWordAt_42 : decode cX11_isWordAt 42 = .ok (.iaload, 1) := by decide +kernel
theorem dX11_isWordAt_43 : decode cX11_isWordAt 43 = .ok (.iload_n 1, 1) := by decide +kernel
theorem dX11_isWordAt_44 : decode cX11_isWordAt 44 = .ok (.if_icmp .ne 58, 3) := by decide +kernel
theorem dX11_isWordAt_47 : decode cX11_isWordAt 47 = .ok (.aload_n 0, 1) := by decide +kernel
theorem dX11_isWordAt_48 : decode cX11_isWordAt 48 = .ok (.getfield 52, 3) := by decide +kernel
theorem dX11_isWordAt_51 : decode cX11_isWordAt 51 = .ok (.aload_n 0, 1) := by decide +kernel
theorem dX11_isWordAt_52 : decode cX11_isWordAt 52 = .ok (.getfield 231, 3) := by decide +kernel
theorem dX11_isWordAt_55 : decode cX11_isWordAt 55 = .ok (.iconst 1, 1) := by decide +kernel
theorem dX11_isWordAt_56 : decode cX11_isWordAt 56 = .ok (.iadd, 1) := by decide +kernel
theorem dX11_isWordAt_57 : decode cX11_isWordAt 57 = .ok (.iaload, 1) := by decide +kernel
theorem dX11_isWordAt_58 : decode cX11_isWordAt 58 = .ok (.iload_n 2, 1) := by decide +kernel
theorem dX11_isWordAt_59 : decode cX11_isWordAt 59 = .ok (.if_icmp .ne 43, 3) := by decide +kernel
theorem dX11_isWordAt_62 : decode cX11_isWordAt 62 = .ok (.aload_n 0, 1) := by decide +kernel
theorem dX11_isWordAt_63 : decode cX11_isWordAt 63 = .ok (.getfield 52, 3) := by decide +kernel
theorem dX11_isWordAt_66 : decode cX11_isWordAt 66 = .ok (.aload_n 0, 1) := by decide +kernel
theorem dX11_isWordAt_67 : decode cX11_isWordAt 67 = .ok (.getfield 231, 3) := by decide +kernel
theorem dX11_isWordAt_70 : decode cX11_isWordAt 70 = .ok (.iconst 2, 1) := by decide +kernel
theorem dX11_isWordAt_71 : decode cX11_isWordAt 71 = .ok (.iadd, 1) := by decide +kernel
theorem dX11_isWordAt_72 : decode cX11_isWordAt 72 = .ok (.iaload, 1) := by decide +kernel
theorem dX11_isWordAt_73 : decode cX11_isWordAt 73 = .ok (.iload_n 3, 1) := by decide +kernel
theorem dX11_isWordAt_74 : decode cX11_isWordAt 74 = .ok (.if_icmp .ne 28, 3) := by decide +kernel
theorem dX11_isWordAt_77 : decode cX11_isWordAt 77 = .ok (.iload 4, 2) := by decide +kernel
theorem dX11_isWordAt_79 : decode cX11_isWordAt 79 = .ok (.ifCond .eq 19, 3) := by decide +kernel
theorem dX11_isWordAt_82 : decode cX11_isWordAt 82 = .ok (.aload_n 0, 1) := by decide +kernel
theorem dX11_isWordAt_83 : decode cX11_isWordAt 83 = .ok (.getfield 52, 3) := by decide +kernel
theorem dX11_isWordAt_86 : decode cX11_isWordAt 86 = .ok (.aload_n 0, 1) := by decide +kernel
theorem dX11_isWordAt_87 : decode cX11_isWordAt 87 = .ok (.getfield 231, 3) := by decide +kernel
theorem dX11_isWordAt_90 : decode cX11_isWordAt 90 = .ok (.iconst 3, 1) := by decide +kernel
theorem dX11_isWordAt_91 : decode cX11_isWordAt 91 = .ok (.iadd, 1) := by decide +kernel
theorem dX11_isWordAt_92 : decode cX11_isWordAt 92 = .ok (.iaload, 1) := by decide +kernel
theorem dX11_isWordAt_93 : decode cX11_isWordAt 93 = .ok (.iload 4, 2) := by decide +kernel
theorem dX11_isWordAt_95 : decode cX11_isWordAt 95 = .ok (.if_icmp .ne 7, 3) := by decide +kernel
theorem dX11_isWordAt_98 : decode cX11_isWordAt 98 = .ok (.iconst 1, 1) := by decide +kernel
theorem dX11_isWordAt_99 : decode cX11_isWordAt 99 = .ok (.goto 4, 3) := by decide +kernel
theorem dX11_isWordAt_102 : decode cX11_isWordAt 102 = .ok (.iconst 0, 1) := by decide +kernel
theorem dX11_isWordAt_103 : decode cX11_isWordAt 103 = .ok (.ireturn, 1) := by decide +kernel
theorem dX11_key_0 : decode cX11_key 0 = .ok (.aload_n 0, 1) := by decide +kernel
theorem dX11_key_1 : decode cX11_key 1 = .ok (.bipush 116, 2) := by decide +kernel
theorem dX11_key_3 : decode cX11_key 3 = .ok (.bipush 101, 2) := by decide +kernel
theorem dX11_key_5 : decode cX11_key 5 = .ok (.bipush 114, 2) := by decide +kernel
theorem dX11_key_7 : decode cX11_key 7 = .ok (.bipush 109, 2) := by decide +kernel
theorem dX11_key_9 : decode cX11_key 9 = .ok (.invokevirtual 246, 3) := by decide +kernel
theorem dX11_key_12 : decode cX11_key 12 = .ok (.ifCond .eq 5, 3) := by decide +kernel
theorem dX11_key_15 : decode cX11_key 15 = .ok (.iconst 0, 1) := by decide +kernel
theorem dX11_key_16 : decode cX11_key 16 = .ok (.ireturn, 1) := by decide +kernel
theorem dX11_key_17 : decode cX11_key 17 = .ok (.aload_n 0, 1) := by decide +kernel
theorem dX11_key_18 : decode cX11_key 18 = .ok (.bipush 102, 2) := by decide +kernel
theorem dX11_key_20 : decode cX11_key 20 = .ok (.bipush 97, 2) := by decide +kernel
theorem dX11_key_22 : decode cX11_key 22 = .ok (.bipush 109, 2) := by decide +kernel
theorem dX11_key_24 : decode cX11_key 24 = .ok (.bipush 101, 2) := by decide +kernel
theorem dX11_key_26 : decode cX11_key 26 = .ok (.invokevirtual 246, 3) := by decide +kernel
theorem dX11_key_29 : decode cX11_key 29 = .ok (.ifCond .eq 5, 3) := by decide +kernel
theorem dX11_key_32 : decode cX11_key 32 = .ok (.iconst 1, 1) := by decide +kernel
theorem dX11_key_33 : decode cX11_key 33 = .ok (.ireturn, 1) := by decide +kernel
theorem dX11_key_34 : decode cX11_key 34 = .ok (.aload_n 0, 1) := by decide +kernel
theorem dX11_key_35 : decode cX11_key 35 = .ok (.bipush 102, 2) := by decide +kernel
theorem dX11_key_37 : decode cX11_key 37 = .ok (.bipush 105, 2) := by decide +kernel
theorem dX11_key_39 : decode cX11_key 39 = .ok (.bipush 110, 2) := by decide +kernel
theorem dX11_key_41 : decode cX11_key 41 = .ok (.bipush 101, 2) := by decide +kernel
theorem dX11_key_43 : decode cX11_key 43 = .ok (.invokevirtual 246, 3) := by decide +kernel
theorem dX11_key_46 : decode cX11_key 46 = .ok (.ifCond .eq 7, 3) := by decide +kernel
theorem dX11_key_49 : decode cX11_key 49 = .ok (.iconst 2, 1) := by decide +kernel
theorem dX11_key_50 : decode cX11_key 50 = .ok (.goto 4, 3) := by decide +kernel
theorem dX11_key_53 : decode cX11_key 53 = .ok (.iconst (-1), 1) := by decide +kernel
theorem dX11_key_54 : decode cX11_key 54 = .ok (.ireturn, 1) := by decide +kernel
theorem dX11_isName_0 : decode cX11_isName 0 = .ok (.iload_n 0, 1) := by decide +kernel
theorem dX11_isName_1 : decode cX11_isName 1 = .ok (.lookupswitch 69 #[(0, 27), (1, 51)], 27) := by decide +kernel
theorem dX11_isName_28 : decode cX11_isName 28 = .ok (.iload_n 1, 1) := by decide +kernel
theorem dX11_isName_29 : decode cX11_isName 29 = .ok (.bipush 107, 2) := by decide +kernel
theorem dX11_isName_31 : decode cX11_isName 31 = .ok (.if_icmp .eq 15, 3) := by decide +kernel
theorem dX11_isName_34 : decode cX11_isName 34 = .ok (.iload_n 1, 1) := by decide +kernel
theorem dX11_isName_35 : decode cX11_isName 35 = .ok (.bipush 103, 2) := by decide +kernel
theorem dX11_isName_37 : decode cX11_isName 37 = .ok (.if_icmp .eq 9, 3) := by decide +kernel
theorem dX11_isName_40 : decode cX11_isName 40 = .ok (.iload_n 1, 1) := by decide +kernel
theorem dX11_isName_41 : decode cX11_isName 41 = .ok (.bipush 97, 2) := by decide +kernel
theorem dX11_isName_43 : decode cX11_isName 43 = .ok (.if_icmp .ne 7, 3) := by decide +kernel
theorem dX11_isName_46 : decode cX11_isName 46 = .ok (.iconst 1, 1) := by decide +kernel
theorem dX11_isName_47 : decode cX11_isName 47 = .ok (.goto 4, 3) := by decide +kernel
theorem dX11_isName_50 : decode cX11_isName 50 = .ok (.iconst 0, 1) := by decide +kernel
theorem dX11_isName_51 : decode cX11_isName 51 = .ok (.ireturn, 1) := by decide +kernel
theorem dX11_isName_52 : decode cX11_isName 52 = .ok (.iload_n 1, 1) := by decide +kernel
theorem dX11_isName_53 : decode cX11_isName 53 = .ok (.bipush 102, 2) := by decide +kernel
theorem dX11_isName_55 : decode cX11_isName 55 = .ok (.if_icmp .eq 9, 3) := by decide +kernel
theorem dX11_isName_58 : decode cX11_isName 58 = .ok (.iload_n 1, 1) := by decide +kernel
theorem dX11_isName_59 : decode cX11_isName 59 = .ok (.bipush 97, 2) := by decide +kernel
theorem dX11_isName_61 : decode cX11_isName 61 = .ok (.if_icmp .ne 7, 3) := by decide +kernel
theorem dX11_isName_64 : decode cX11_isName 64 = .ok (.iconst 1, 1) := by decide +kernel
theorem dX11_isName_65 : decode cX11_isName 65 = .ok (.goto 4, 3) := by decide +kernel
theorem dX11_isName_68 : decode cX11_isName 68 = .ok (.iconst 0, 1) := by decide +kernel
theorem dX11_isName_69 : decode cX11_isName 69 = .ok (.ireturn, 1) := by decide +kernel
theorem dX11_isName_70 : decode cX11_isName 70 = .ok (.iload_n 1, 1) := by decide +kernel
theorem dX11_isName_71 : decode cX11_isName 71 = .ok (.bipush 99, 2) := by decide +kernel
theorem dX11_isName_73 : decode cX11_isName 73 = .ok (.if_icmp .eq 9, 3) := by decide +kernel
theorem dX11_isName_76 : decode cX11_isName 76 = .ok (.iload_n 1, 1) := by decide +kernel
theorem dX11_isName_77 : decode cX11_isName 77 = .ok (.bipush 100, 2) := by decide +kernel
theorem dX11_isName_79 : decode cX11_isName 79 = .ok (.if_icmp .ne 7, 3) := by decide +kernel
theorem dX11_isName_82 : decode cX11_isName 82 = .ok (.iconst 1, 1) := by decide +kernel
theorem dX11_isName_83 : decode cX11_isName 83 = .ok (.goto 4, 3) := by decide +kernel
theorem dX11_isName_86 : decode cX11_isName 86 = .ok (.iconst 0, 1) := by decide +kernel
theorem dX11_isName_87 : decode cX11_isName 87 = .ok (.ireturn, 1) := by decide +kernel
theorem dX11_step_0 : decode cX11_step 0 = .ok (.aload_n 0, 1) := by decide +kernel
theorem dX11_step_1 : decode cX11_step 1 = .ok (.getfield 7, 3) := by decide +kernel
theorem dX11_step_4 : decode cX11_step 4 = .ok (.aload_n 0, 1) := by decide +kernel
theorem dX11_step_5 : decode cX11_step 5 = .ok (.getfield 250, 3) := by decide +kernel
theorem dX11_step_8 : decode cX11_step 8 = .ok (.iconst 2, 1) := by decide +kernel
theorem dX11_step_9 : decode cX11_step 9 = .ok (.aload_n 0, 1) := by decide +kernel
theorem dX11_step_10 : decode cX11_step 10 = .ok (.getfield 253, 3) := by decide +kernel
theorem dX11_step_13 : decode cX11_step 13 = .ok (.imul, 1) := by decide +kernel
theorem dX11_step_14 : decode cX11_step 14 = .ok (.iadd, 1) := by decide +kernel
theorem dX11_step_15 : decode cX11_step 15 = .ok (.iload_n 1, 1) := by decide +kernel
theorem dX11_step_16 : decode cX11_step 16 = .ok (.iastore, 1) := by decide +kernel
theorem dX11_step_17 : decode cX11_step 17 = .ok (.aload_n 0, 1) := by decide +kernel
theorem dX11_step_18 : decode cX11_step 18 = .ok (.getfield 7, 3) := by decide +kernel
theorem dX11_step_21 : decode cX11_step 21 = .ok (.aload_n 0, 1) := by decide +kernel
theorem dX11_step_22 : decode cX11_step 22 = .ok (.getfield 250, 3) := by decide +kernel
theorem dX11_step_25 : decode cX11_step 25 = .ok (.iconst 2, 1) := by decide +kernel
theorem dX11_step_26 : decode cX11_step 26 = .ok (.aload_n 0, 1) := by decide +kernel
theorem dX11_step_27 : decode cX11_step 27 = .ok (.getfield 253, 3) := by decide +kernel
theorem dX11_step_30 : decode cX11_step 30 = .ok (.imul, 1) := by decide +kernel
theorem dX11_step_31 : decode cX11_step 31 = .ok (.iadd, 1) := by decide +kernel
theorem dX11_step_32 : decode cX11_step 32 = .ok (.iconst 1, 1) := by decide +kernel
theorem dX11_step_33 : decode cX11_step 33 = .ok (.iadd, 1) := by decide +kernel
theorem dX11_step_34 : decode cX11_step 34 = .ok (.iload_n 2, 1) := by decide +kernel
theorem dX11_step_35 : decode cX11_step 35 = .ok (.iastore, 1) := by decide +kernel
theorem dX11_step_36 : decode cX11_step 36 = .ok (.aload_n 0, 1) := by decide +kernel
theorem dX11_step_37 : decode cX11_step 37 = .ok (.dup, 1) := by decide +kernel
theorem dX11_step_38 : decode cX11_step 38 = .ok (.getfield 253, 3) := by decide +kernel
theorem dX11_step_41 : decode cX11_step 41 = .ok (.iconst 1, 1) := by decide +kernel
theorem dX11_step_42 : decode cX11_step 42 = .ok (.iadd, 1) := by decide +kernel
theorem dX11_step_43 : decode cX11_step 43 = .ok (.putfield 253, 3) := by decide +kernel
theorem dX11_step_46 : decode cX11_step 46 = .ok (.return_, 1) := by decide +kernel
theorem dX11_either_0 : decode cX11_either 0 = .ok (.aload_n 0, 1) := by decide +kernel
theorem dX11_either_1 : decode cX11_either 1 = .ok (.iload_n 1, 1) := by decide +kernel
theorem dX11_either_2 : decode cX11_either 2 = .ok (.invokevirtual 256, 3) := by decide +kernel
theorem dX11_either_5 : decode cX11_either 5 = .ok (.ifCond .ne 5, 3) := by decide +kernel
theorem dX11_either_8 : decode cX11_either 8 = .ok (.iconst 0, 1) := by decide +kernel
theorem dX11_either_9 : decode cX11_either 9 = .ok (.ireturn, 1) := by decide +kernel
theorem dX11_either_10 : decode cX11_either 10 = .ok (.aload_n 0, 1) := by decide +kernel
theorem dX11_either_11 : decode cX11_either 11 = .ok (.bipush 124, 2) := by decide +kernel
theorem dX11_either_13 : decode cX11_either 13 = .ok (.invokevirtual 259, 3) := by decide +kernel
theorem dX11_either_16 : decode cX11_either 16 = .ok (.ifCond .eq 27, 3) := by decide +kernel
theorem dX11_either_19 : decode cX11_either 19 = .ok (.aload_n 0, 1) := by decide +kernel
theorem dX11_either_20 : decode cX11_either 20 = .ok (.invokevirtual 262, 3) := by decide +kernel
theorem dX11_either_23 : decode cX11_either 23 = .ok (.aload_n 0, 1) := by decide +kernel
theorem dX11_either_24 : decode cX11_either 24 = .ok (.iload_n 1, 1) := by decide +kernel
theorem dX11_either_25 : decode cX11_either 25 = .ok (.invokevirtual 256, 3) := by decide +kernel
theorem dX11_either_28 : decode cX11_either 28 = .ok (.ifCond .ne 5, 3) := by decide +kernel
theorem dX11_either_31 : decode cX11_either 31 = .ok (.iconst 0, 1) := by decide +kernel
theorem dX11_either_32 : decode cX11_either 32 = .ok (.ireturn, 1) := by decide +kernel
theorem dX11_either_33 : decode cX11_either 33 = .ok (.aload_n 0, 1) := by decide +kernel
theorem dX11_either_34 : decode cX11_either 34 = .ok (.iconst 2, 1) := by decide +kernel
theorem dX11_either_35 : decode cX11_either 35 = .ok (.bipush 124, 2) := by decide +kernel
theorem dX11_either_37 : decode cX11_either 37 = .ok (.invokevirtual 265, 3) := by decide +kernel
theorem dX11_either_40 : decode cX11_either 40 = .ok (.goto (-30), 3) := by decide +kernel
theorem dX11_either_43 : decode cX11_either 43 = .ok (.iconst 1, 1) := by decide +kernel
theorem dX11_either_44 : decode cX11_either 44 = .ok (.ireturn, 1) := by decide +kernel
theorem dX11_both_0 : decode cX11_both 0 = .ok (.aload_n 0, 1) := by decide +kernel
theorem dX11_both_1 : decode cX11_both 1 = .ok (.iload_n 1, 1) := by decide +kernel
theorem dX11_both_2 : decode cX11_both 2 = .ok (.invokevirtual 269, 3) := by decide +kernel
theorem dX11_both_5 : decode cX11_both 5 = .ok (.ifCond .ne 5, 3) := by decide +kernel
theorem dX11_both_8 : decode cX11_both 8 = .ok (.iconst 0, 1) := by decide +kernel
theorem dX11_both_9 : decode cX11_both 9 = .ok (.ireturn, 1) := by decide +kernel
theorem dX11_both_10 : decode cX11_both 10 = .ok (.aload_n 0, 1) := by decide +kernel
theorem dX11_both_11 : decode cX11_both 11 = .ok (.bipush 38, 2) := by decide +kernel
theorem dX11_both_13 : decode cX11_both 13 = .ok (.invokevirtual 259, 3) := by decide +kernel
theorem dX11_both_16 : decode cX11_both 16 = .ok (.ifCond .eq 27, 3) := by decide +kernel
theorem dX11_both_19 : decode cX11_both 19 = .ok (.aload_n 0, 1) := by decide +kernel
theorem dX11_both_20 : decode cX11_both 20 = .ok (.invokevirtual 262, 3) := by decide +kernel
theorem dX11_both_23 : decode cX11_both 23 = .ok (.aload_n 0, 1) := by decide +kernel
theorem dX11_both_24 : decode cX11_both 24 = .ok (.iload_n 1, 1) := by decide +kernel
theorem dX11_both_25 : decode cX11_both 25 = .ok (.invokevirtual 269, 3) := by decide +kernel
theorem dX11_both_28 : decode cX11_both 28 = .ok (.ifCond .ne 5, 3) := by decide +kernel
theorem dX11_both_31 : decode cX11_both 31 = .ok (.iconst 0, 1) := by decide +kernel
theorem dX11_both_32 : decode cX11_both 32 = .ok (.ireturn, 1) := by decide +kernel
theorem dX11_both_33 : decode cX11_both 33 = .ok (.aload_n 0, 1) := by decide +kernel
theorem dX11_both_34 : decode cX11_both 34 = .ok (.iconst 2, 1) := by decide +kernel
theorem dX11_both_35 : decode cX11_both 35 = .ok (.bipush 38, 2) := by decide +kernel
theorem dX11_both_37 : decode cX11_both 37 = .ok (.invokevirtual 265, 3) := by decide +kernel
theorem dX11_both_40 : decode cX11_both 40 = .ok (.goto (-30), 3) := by decide +kernel
theorem dX11_both_43 : decode cX11_both 43 = .ok (.iconst 1, 1) := by decide +kernel
theorem dX11_both_44 : decode cX11_both 44 = .ok (.ireturn, 1) := by decide +kernel
theorem dX11_test_0 : decode cX11_test 0 = .ok (.aload_n 0, 1) := by decide +kernel
theorem dX11_test_1 : decode cX11_test 1 = .ok (.iload_n 1, 1) := by decide +kernel
theorem dX11_test_2 : decode cX11_test 2 = .ok (.invokevirtual 272, 3) := by decide +kernel
theorem dX11_test_5 : decode cX11_test 5 = .ok (.ifCond .ne 5, 3) := by decide +kernel
theorem dX11_test_8 : decode cX11_test 8 = .ok (.iconst 0, 1) := by decide +kernel
theorem dX11_test_9 : decode cX11_test 9 = .ok (.ireturn, 1) := by decide +kernel
theorem dX11_test_10 : decode cX11_test 10 = .ok (.aload_n 0, 1) := by decide +kernel
theorem dX11_test_11 : decode cX11_test 11 = .ok (.bipush 60, 2) := by decide +kernel
theorem dX11_test_13 : decode cX11_test 13 = .ok (.invokevirtual 259, 3) := by decide +kernel
theorem dX11_test_16 : decode cX11_test 16 = .ok (.ifCond .ne 21, 3) := by decide +kernel
theorem dX11_test_19 : decode cX11_test 19 = .ok (.aload_n 0, 1) := by decide +kernel
theorem dX11_test_20 : decode cX11_test 20 = .ok (.bipush 61, 2) := by decide +kernel
theorem dX11_test_22 : decode cX11_test 22 = .ok (.invokevirtual 259, 3) := by decide +kernel
theorem dX11_test_25 : decode cX11_test 25 = .ok (.ifCond .ne 12, 3) := by decide +kernel
theorem dX11_test_28 : decode cX11_test 28 = .ok (.aload_n 0, 1) := by decide +kernel
theorem dX11_test_29 : decode cX11_test 29 = .ok (.bipush 62, 2) := by decide +kernel
theorem dX11_test_31 : decode cX11_test 31 = .ok (.invokevirtual 259, 3) := by decide +kernel
theorem dX11_test_34 : decode cX11_test 34 = .ok (.ifCond .eq 28, 3) := by decide +kernel
theorem dX11_test_37 : decode cX11_test 37 = .ok (.aload_n 0, 1) := by decide +kernel
theorem dX11_test_38 : decode cX11_test 38 = .ok (.getfield 237, 3) := by decide +kernel
theorem dX11_test_41 : decode cX11_test 41 = .ok (.istore_n 2, 1) := by decide +kernel
theorem dX11_test_42 : decode cX11_test 42 = .ok (.aload_n 0, 1) := by decide +kernel
theorem dX11_test_43 : decode cX11_test 43 = .ok (.invokevirtual 262, 3) := by decide +kernel
theorem dX11_test_46 : decode cX11_test 46 = .ok (.aload_n 0, 1) := by decide +kernel
theorem dX11_test_47 : decode cX11_test 47 = .ok (.iload_n 1, 1) := by decide +kernel
theorem dX11_test_48 : decode cX11_test 48 = .ok (.invokevirtual 272, 3) := by decide +kernel
theorem dX11_test_51 : decode cX11_test 51 = .ok (.ifCond .ne 5, 3) := by decide +kernel
theorem dX11_test_54 : decode cX11_test 54 = .ok (.iconst 0, 1) := by decide +kernel
theorem dX11_test_55 : decode cX11_test 55 = .ok (.ireturn, 1) := by decide +kernel
theorem dX11_test_56 : decode cX11_test 56 = .ok (.aload_n 0, 1) := by decide +kernel
theorem dX11_test_57 : decode cX11_test 57 = .ok (.iconst 2, 1) := by decide +kernel
theorem dX11_test_58 : decode cX11_test 58 = .ok (.iload_n 2, 1) := by decide +kernel
theorem dX11_test_59 : decode cX11_test 59 = .ok (.invokevirtual 265, 3) := by decide +kernel
theorem dX11_test_62 : decode cX11_test 62 = .ok (.iconst 1, 1) := by decide +kernel
theorem dX11_test_63 : decode cX11_test 63 = .ok (.ireturn, 1) := by decide +kernel
theorem dX11_sum_0 : decode cX11_sum 0 = .ok (.aload_n 0, 1) := by decide +kernel
theorem dX11_sum_1 : decode cX11_sum 1 = .ok (.iload_n 1, 1) := by decide +kernel
theorem dX11_sum_2 : decode cX11_sum 2 = .ok (.invokevirtual 275, 3) := by decide +kernel
theorem dX11_sum_5 : decode cX11_sum 5 = .ok (.ifCond .ne 5, 3) := by decide +kernel
theorem dX11_sum_8 : decode cX11_sum 8 = .ok (.iconst 0, 1) := by decide +kernel
theorem dX11_sum_9 : decode cX11_sum 9 = .ok (.ireturn, 1) := by decide +kernel
theorem dX11_sum_10 : decode cX11_sum 10 = .ok (.aload_n 0, 1) := by decide +kernel
theorem dX11_sum_11 : decode cX11_sum 11 = .ok (.bipush 43, 2) := by decide +kernel
theorem dX11_sum_13 : decode cX11_sum 13 = .ok (.invokevirtual 259, 3) := by decide +kernel
theorem dX11_sum_16 : decode cX11_sum 16 = .ok (.ifCond .ne 12, 3) := by decide +kernel
theorem dX11_sum_19 : decode cX11_sum 19 = .ok (.aload_n 0, 1) := by decide +kernel
theorem dX11_sum_20 : decode cX11_sum 20 = .ok (.bipush 45, 2) := by decide +kernel
theorem dX11_sum_22 : decode cX11_sum 22 = .ok (.invokevirtual 259, 3) := by decide +kernel
theorem dX11_sum_25 : decode cX11_sum 25 = .ok (.ifCond .eq 31, 3) := by decide +kernel
theorem dX11_sum_28 : decode cX11_sum 28 = .ok (.aload_n 0, 1) := by decide +kernel
theorem dX11_sum_29 : decode cX11_sum 29 = .ok (.getfield 237, 3) := by decide +kernel
theorem dX11_sum_32 : decode cX11_sum 32 = .ok (.istore_n 2, 1) := by decide +kernel
theorem dX11_sum_33 : decode cX11_sum 33 = .ok (.aload_n 0, 1) := by decide +kernel
theorem dX11_sum_34 : decode cX11_sum 34 = .ok (.invokevirtual 262, 3) := by decide +kernel
theorem dX11_sum_37 : decode cX11_sum 37 = .ok (.aload_n 0, 1) := by decide +kernel
theorem dX11_sum_38 : decode cX11_sum 38 = .ok (.iload_n 1, 1) := by decide +kernel
theorem dX11_sum_39 : decode cX11_sum 39 = .ok (.invokevirtual 275, 3) := by decide +kernel
theorem dX11_sum_42 : decode cX11_sum 42 = .ok (.ifCond .ne 5, 3) := by decide +kernel
theorem dX11_sum_45 : decode cX11_sum 45 = .ok (.iconst 0, 1) := by decide +kernel
theorem dX11_sum_46 : decode cX11_sum 46 = .ok (.ireturn, 1) := by decide +kernel
theorem dX11_sum_47 : decode cX11_sum 47 = .ok (.aload_n 0, 1) := by decide +kernel
theorem dX11_sum_48 : decode cX11_sum 48 = .ok (.iconst 2, 1) := by decide +kernel
theorem dX11_sum_49 : decode cX11_sum 49 = .ok (.iload_n 2, 1) := by decide +kernel
theorem dX11_sum_50 : decode cX11_sum 50 = .ok (.invokevirtual 265, 3) := by decide +kernel
theorem dX11_sum_53 : decode cX11_sum 53 = .ok (.goto (-43), 3) := by decide +kernel
theorem dX11_sum_56 : decode cX11_sum 56 = .ok (.iconst 1, 1) := by decide +kernel
theorem dX11_sum_57 : decode cX11_sum 57 = .ok (.ireturn, 1) := by decide +kernel
theorem dX11_term_0 : decode cX11_term 0 = .ok (.aload_n 0, 1) := by decide +kernel
theorem dX11_term_1 : decode cX11_term 1 = .ok (.iload_n 1, 1) := by decide +kernel
theorem dX11_term_2 : decode cX11_term 2 = .ok (.invokevirtual 278, 3) := by decide +kernel
theorem dX11_term_5 : decode cX11_term 5 = .ok (.ifCond .ne 5, 3) := by decide +kernel
theorem dX11_term_8 : decode cX11_term 8 = .ok (.iconst 0, 1) := by decide +kernel
theorem dX11_term_9 : decode cX11_term 9 = .ok (.ireturn, 1) := by decide +kernel
theorem dX11_term_10 : decode cX11_term 10 = .ok (.aload_n 0, 1) := by decide +kernel
theorem dX11_term_11 : decode cX11_term 11 = .ok (.bipush 42, 2) := by decide +kernel
theorem dX11_term_13 : decode cX11_term 13 = .ok (.invokevirtual 259, 3) := by decide +kernel
theorem dX11_term_16 : decode cX11_term 16 = .ok (.ifCond .ne 12, 3) := by decide +kernel
theorem dX11_term_19 : decode cX11_term 19 = .ok (.aload_n 0, 1) := by decide +kernel
theorem dX11_term_20 : decode cX11_term 20 = .ok (.bipush 47, 2) := by decide +kernel
theorem dX11_term_22 : decode cX11_term 22 = .ok (.invokevirtual 259, 3) := by decide +kernel
theorem dX11_term_25 : decode cX11_term 25 = .ok (.ifCond .eq 31, 3) := by decide +kernel
theorem dX11_term_28 : decode cX11_term 28 = .ok (.aload_n 0, 1) := by decide +kernel
theorem dX11_term_29 : decode cX11_term 29 = .ok (.getfield 237, 3) := by decide +kernel
theorem dX11_term_32 : decode cX11_term 32 = .ok (.istore_n 2, 1) := by decide +kernel
theorem dX11_term_33 : decode cX11_term 33 = .ok (.aload_n 0, 1) := by decide +kernel
theorem dX11_term_34 : decode cX11_term 34 = .ok (.invokevirtual 262, 3) := by decide +kernel
theorem dX11_term_37 : decode cX11_term 37 = .ok (.aload_n 0, 1) := by decide +kernel
theorem dX11_term_38 : decode cX11_term 38 = .ok (.iload_n 1, 1) := by decide +kernel
theorem dX11_term_39 : decode cX11_term 39 = .ok (.invokevirtual 278, 3) := by decide +kernel
theorem dX11_term_42 : decode cX11_term 42 = .ok (.ifCond .ne 5, 3) := by decide +kernel
theorem dX11_term_45 : decode cX11_term 45 = .ok (.iconst 0, 1) := by decide +kernel
theorem dX11_term_46 : decode cX11_term 46 = .ok (.ireturn, 1) := by decide +kernel
theorem dX11_term_47 : decode cX11_term 47 = .ok (.aload_n 0, 1) := by decide +kernel
theorem dX11_term_48 : decode cX11_term 48 = .ok (.iconst 2, 1) := by decide +kernel
theorem dX11_term_49 : decode cX11_term 49 = .ok (.iload_n 2, 1) := by decide +kernel
theorem dX11_term_50 : decode cX11_term 50 = .ok (.invokevirtual 265, 3) := by decide +kernel
theorem dX11_term_53 : decode cX11_term 53 = .ok (.goto (-43), 3) := by decide +kernel
theorem dX11_term_56 : decode cX11_term 56 = .ok (.iconst 1, 1) := by decide +kernel
theorem dX11_term_57 : decode cX11_term 57 = .ok (.ireturn, 1) := by decide +kernel
theorem dX11_part0_0 : decode cX11_part0 0 = .ok (.aload_n 0, 1) := by decide +kernel
theorem dX11_part0_1 : decode cX11_part0 1 = .ok (.getfield 228, 3) := by decide +kernel
theorem dX11_part0_4 : decode cX11_part0 4 = .ok (.iconst 2, 1) := by decide +kernel
theorem dX11_part0_5 : decode cX11_part0 5 = .ok (.if_icmp .ne 28, 3) := by decide +kernel
theorem dX11_part0_8 : decode cX11_part0 8 = .ok (.aload_n 0, 1) := by decide +kernel
theorem dX11_part0_9 : decode cX11_part0 9 = .ok (.iconst 0, 1) := by decide +kernel
theorem dX11_part0_10 : decode cX11_part0 10 = .ok (.aload_n 0, 1) := by decide +kernel
theorem dX11_part0_11 : decode cX11_part0 11 = .ok (.getfield 243, 3) := by decide +kernel
theorem dX11_part0_14 : decode cX11_part0 14 = .ok (.invokevirtual 265, 3) := by decide +kernel
theorem dX11_part0_17 : decode cX11_part0 17 = .ok (.aload_n 0, 1) := by decide +kernel
theorem dX11_part0_18 : decode cX11_part0 18 = .ok (.dup, 1) := by decide +kernel
theorem dX11_part0_19 : decode cX11_part0 19 = .ok (.getfield 281, 3) := by decide +kernel
theorem dX11_part0_22 : decode cX11_part0 22 = .ok (.iconst 1, 1) := by decide +kernel
theorem dX11_part0_23 : decode cX11_part0 23 = .ok (.iadd, 1) := by decide +kernel
theorem dX11_part0_24 : decode cX11_part0 24 = .ok (.putfield 281, 3) := by decide +kernel
theorem dX11_part0_27 : decode cX11_part0 27 = .ok (.aload_n 0, 1) := by decide +kernel
theorem dX11_part0_28 : decode cX11_part0 28 = .ok (.invokevirtual 262, 3) := by decide +kernel
theorem dX11_part0_31 : decode cX11_part0 31 = .ok (.iconst 1, 1) := by decide +kernel
theorem dX11_part0_32 : decode cX11_part0 32 = .ok (.ireturn, 1) := by decide +kernel
theorem dX11_part0_33 : decode cX11_part0 33 = .ok (.aload_n 0, 1) := by decide +kernel
theorem dX11_part0_34 : decode cX11_part0 34 = .ok (.getfield 228, 3) := by decide +kernel
theorem dX11_part0_37 : decode cX11_part0 37 = .ok (.iconst 1, 1) := by decide +kernel
theorem dX11_part0_38 : decode cX11_part0 38 = .ok (.if_icmp .ne 46, 3) := by decide +kernel
theorem dX11_part0_41 : decode cX11_part0 41 = .ok (.aload_n 0, 1) := by decide +kernel
theorem dX11_part0_42 : decode cX11_part0 42 = .ok (.getfield 237, 3) := by decide +kernel
theorem dX11_part0_45 : decode cX11_part0 45 = .ok (.ifCond .eq 39, 3) := by decide +kernel
theorem dX11_part0_48 : decode cX11_part0 48 = .ok (.iload_n 1, 1) := by decide +kernel
theorem dX11_part0_49 : decode cX11_part0 49 = .ok (.aload_n 0, 1) := by decide +kernel
theorem dX11_part0_50 : decode cX11_part0 50 = .ok (.getfield 237, 3) := by decide +kernel
theorem dX11_part0_53 : decode cX11_part0 53 = .ok (.invokestatic 284, 3) := by decide +kernel
theorem dX11_part0_56 : decode cX11_part0 56 = .ok (.ifCond .eq 28, 3) := by decide +kernel
theorem dX11_part0_59 : decode cX11_part0 59 = .ok (.aload_n 0, 1) := by decide +kernel
theorem dX11_part0_60 : decode cX11_part0 60 = .ok (.iconst 1, 1) := by decide +kernel
theorem dX11_part0_61 : decode cX11_part0 61 = .ok (.aload_n 0, 1) := by decide +kernel
theorem dX11_part0_62 : decode cX11_part0 62 = .ok (.getfield 237, 3) := by decide +kernel
theorem dX11_part0_65 : decode cX11_part0 65 = .ok (.invokevirtual 265, 3) := by decide +kernel
theorem dX11_part0_68 : decode cX11_part0 68 = .ok (.aload_n 0, 1) := by decide +kernel
theorem dX11_part0_69 : decode cX11_part0 69 = .ok (.dup, 1) := by decide +kernel
theorem dX11_part0_70 : decode cX11_part0 70 = .ok (.getfield 281, 3) := by decide +kernel
theorem dX11_part0_73 : decode cX11_part0 73 = .ok (.iconst 1, 1) := by decide +kernel
theorem dX11_part0_74 : decode cX11_part0 74 = .ok (.iadd, 1) := by decide +kernel
theorem dX11_part0_75 : decode cX11_part0 75 = .ok (.putfield 281, 3) := by decide +kernel
theorem dX11_part0_78 : decode cX11_part0 78 = .ok (.aload_n 0, 1) := by decide +kernel
theorem dX11_part0_79 : decode cX11_part0 79 = .ok (.invokevirtual 262, 3) := by decide +kernel
theorem dX11_part0_82 : decode cX11_part0 82 = .ok (.iconst 1, 1) := by decide +kernel
theorem dX11_part0_83 : decode cX11_part0 83 = .ok (.ireturn, 1) := by decide +kernel
theorem dX11_part0_84 : decode cX11_part0 84 = .ok (.aload_n 0, 1) := by decide +kernel
theorem dX11_part0_85 : decode cX11_part0 85 = .ok (.bipush 33, 2) := by decide +kernel
theorem dX11_part0_87 : decode cX11_part0 87 = .ok (.invokevirtual 259, 3) := by decide +kernel
theorem dX11_part0_90 : decode cX11_part0 90 = .ok (.ifCond .eq 55, 3) := by decide +kernel
theorem dX11_part0_93 : decode cX11_part0 93 = .ok (.aload_n 0, 1) := by decide +kernel
theorem dX11_part0_94 : decode cX11_part0 94 = .ok (.getfield 287, 3) := by decide +kernel
theorem dX11_part0_97 : decode cX11_part0 97 = .ok (.bipush 8, 2) := by decide +kernel
theorem dX11_part0_99 : decode cX11_part0 99 = .ok (.if_icmp .ge 46, 3) := by decide +kernel
theorem dX11_part0_102 : decode cX11_part0 102 = .ok (.aload_n 0, 1) := by decide +kernel
theorem dX11_part0_103 : decode cX11_part0 103 = .ok (.dup, 1) := by decide +kernel
theorem dX11_part0_104 : decode cX11_part0 104 = .ok (.getfield 287, 3) := by decide +kernel
theorem dX11_part0_107 : decode cX11_part0 107 = .ok (.iconst 1, 1) := by decide +kernel
theorem dX11_part0_108 : decode cX11_part0 108 = .ok (.iadd, 1) := by decide +kernel
theorem dX11_part0_109 : decode cX11_part0 109 = .ok (.putfield 287, 3) := by decide +kernel
theorem dX11_part0_112 : decode cX11_part0 112 = .ok (.aload_n 0, 1) := by decide +kernel
theorem dX11_part0_113 : decode cX11_part0 113 = .ok (.invokevirtual 262, 3) := by decide +kernel
theorem dX11_part0_116 : decode cX11_part0 116 = .ok (.aload_n 0, 1) := by decide +kernel
theorem dX11_part0_117 : decode cX11_part0 117 = .ok (.iload_n 1, 1) := by decide +kernel
theorem dX11_part0_118 : decode cX11_part0 118 = .ok (.invokevirtual 278, 3) := by decide +kernel
theorem dX11_part0_121 : decode cX11_part0 121 = .ok (.ifCond .ne 5, 3) := by decide +kernel
theorem dX11_part0_124 : decode cX11_part0 124 = .ok (.iconst 0, 1) := by decide +kernel
theorem dX11_part0_125 : decode cX11_part0 125 = .ok (.ireturn, 1) := by decide +kernel
theorem dX11_part0_126 : decode cX11_part0 126 = .ok (.aload_n 0, 1) := by decide +kernel
theorem dX11_part0_127 : decode cX11_part0 127 = .ok (.dup, 1) := by decide +kernel
theorem dX11_part0_128 : decode cX11_part0 128 = .ok (.getfield 287, 3) := by decide +kernel
theorem dX11_part0_131 : decode cX11_part0 131 = .ok (.iconst 1, 1) := by decide +kernel
theorem dX11_part0_132 : decode cX11_part0 132 = .ok (.isub, 1) := by decide +kernel
theorem dX11_part0_133 : decode cX11_part0 133 = .ok (.putfield 287, 3) := by decide +kernel
theorem dX11_part0_136 : decode cX11_part0 136 = .ok (.aload_n 0, 1) := by decide +kernel
theorem dX11_part0_137 : decode cX11_part0 137 = .ok (.iconst 2, 1) := by decide +kernel
theorem dX11_part0_138 : decode cX11_part0 138 = .ok (.bipush 33, 2) := by decide +kernel
theorem dX11_part0_140 : decode cX11_part0 140 = .ok (.invokevirtual 265, 3) := by decide +kernel
theorem dX11_part0_143 : decode cX11_part0 143 = .ok (.iconst 1, 1) := by decide +kernel
theorem dX11_part0_144 : decode cX11_part0 144 = .ok (.ireturn, 1) := by decide +kernel
theorem dX11_part0_145 : decode cX11_part0 145 = .ok (.aload_n 0, 1) := by decide +kernel
theorem dX11_part0_146 : decode cX11_part0 146 = .ok (.bipush 40, 2) := by decide +kernel
theorem dX11_part0_148 : decode cX11_part0 148 = .ok (.invokevirtual 259, 3) := by decide +kernel
theorem dX11_part0_151 : decode cX11_part0 151 = .ok (.ifCond .eq 12, 3) := by decide +kernel
theorem dX11_part0_154 : decode cX11_part0 154 = .ok (.aload_n 0, 1) := by decide +kernel
theorem dX11_part0_155 : decode cX11_part0 155 = .ok (.getfield 290, 3) := by decide +kernel
theorem dX11_part0_158 : decode cX11_part0 158 = .ok (.bipush 8, 2) := by decide +kernel
theorem dX11_part0_160 : decode cX11_part0 160 = .ok (.if_icmp .ne 5, 3) := by decide +kernel
theorem dX11_part0_163 : decode cX11_part0 163 = .ok (.iconst 0, 1) := by decide +kernel
theorem dX11_part0_164 : decode cX11_part0 164 = .ok (.ireturn, 1) := by decide +kernel
theorem dX11_part0_165 : decode cX11_part0 165 = .ok (.aload_n 0, 1) := by decide +kernel
theorem dX11_part0_166 : decode cX11_part0 166 = .ok (.dup, 1) := by decide +kernel
theorem dX11_part0_167 : decode cX11_part0 167 = .ok (.getfield 290, 3) := by decide +kernel
theorem dX11_part0_170 : decode cX11_part0 170 = .ok (.iconst 1, 1) := by decide +kernel
theorem dX11_part0_171 : decode cX11_part0 171 = .ok (.iadd, 1) := by decide +kernel
theorem dX11_part0_172 : decode cX11_part0 172 = .ok (.putfield 290, 3) := by decide +kernel
theorem dX11_part0_175 : decode cX11_part0 175 = .ok (.aload_n 0, 1) := by decide +kernel
theorem dX11_part0_176 : decode cX11_part0 176 = .ok (.invokevirtual 262, 3) := by decide +kernel
theorem dX11_part0_179 : decode cX11_part0 179 = .ok (.aload_n 0, 1) := by decide +kernel
theorem dX11_part0_180 : decode cX11_part0 180 = .ok (.iload_n 1, 1) := by decide +kernel
theorem dX11_part0_181 : decode cX11_part0 181 = .ok (.invokevirtual 293, 3) := by decide +kernel
theorem dX11_part0_184 : decode cX11_part0 184 = .ok (.ifCond .eq 12, 3) := by decide +kernel
theorem dX11_part0_187 : decode cX11_part0 187 = .ok (.aload_n 0, 1) := by decide +kernel
theorem dX11_part0_188 : decode cX11_part0 188 = .ok (.bipush 41, 2) := by decide +kernel
theorem dX11_part0_190 : decode cX11_part0 190 = .ok (.invokevirtual 259, 3) := by decide +kernel
theorem dX11_part0_193 : decode cX11_part0 193 = .ok (.ifCond .ne 5, 3) := by decide +kernel
theorem dX11_part0_196 : decode cX11_part0 196 = .ok (.iconst 0, 1) := by decide +kernel
theorem dX11_part0_197 : decode cX11_part0 197 = .ok (.ireturn, 1) := by decide +kernel
theorem dX11_part0_198 : decode cX11_part0 198 = .ok (.aload_n 0, 1) := by decide +kernel
theorem dX11_part0_199 : decode cX11_part0 199 = .ok (.dup, 1) := by decide +kernel
theorem dX11_part0_200 : decode cX11_part0 200 = .ok (.getfield 290, 3) := by decide +kernel
theorem dX11_part0_203 : decode cX11_part0 203 = .ok (.iconst 1, 1) := by decide +kernel
theorem dX11_part0_204 : decode cX11_part0 204 = .ok (.isub, 1) := by decide +kernel
theorem dX11_part0_205 : decode cX11_part0 205 = .ok (.putfield 290, 3) := by decide +kernel
theorem dX11_part0_208 : decode cX11_part0 208 = .ok (.aload_n 0, 1) := by decide +kernel
theorem dX11_part0_209 : decode cX11_part0 209 = .ok (.invokevirtual 262, 3) := by decide +kernel
theorem dX11_part0_212 : decode cX11_part0 212 = .ok (.iconst 1, 1) := by decide +kernel
theorem dX11_part0_213 : decode cX11_part0 213 = .ok (.ireturn, 1) := by decide +kernel
theorem dX11_parse_0 : decode cX11_parse 0 = .ok (.aload_n 0, 1) := by decide +kernel
theorem dX11_parse_1 : decode cX11_parse 1 = .ok (.iconst 0, 1) := by decide +kernel
theorem dX11_parse_2 : decode cX11_parse 2 = .ok (.putfield 225, 3) := by decide +kernel
theorem dX11_parse_5 : decode cX11_parse 5 = .ok (.aload_n 0, 1) := by decide +kernel
theorem dX11_parse_6 : decode cX11_parse 6 = .ok (.iconst 3, 1) := by decide +kernel
theorem dX11_parse_7 : decode cX11_parse 7 = .ok (.putfield 228, 3) := by decide +kernel
theorem dX11_parse_10 : decode cX11_parse 10 = .ok (.aload_n 0, 1) := by decide +kernel
theorem dX11_parse_11 : decode cX11_parse 11 = .ok (.iconst 0, 1) := by decide +kernel
theorem dX11_parse_12 : decode cX11_parse 12 = .ok (.putfield 290, 3) := by decide +kernel
theorem dX11_parse_15 : decode cX11_parse 15 = .ok (.aload_n 0, 1) := by decide +kernel
theorem dX11_parse_16 : decode cX11_parse 16 = .ok (.iconst 0, 1) := by decide +kernel
theorem dX11_parse_17 : decode cX11_parse 17 = .ok (.putfield 287, 3) := by decide +kernel
theorem dX11_parse_20 : decode cX11_parse 20 = .ok (.aload_n 0, 1) := by decide +kernel
theorem dX11_parse_21 : decode cX11_parse 21 = .ok (.iconst 0, 1) := by decide +kernel
theorem dX11_parse_22 : decode cX11_parse 22 = .ok (.putfield 253, 3) := by decide +kernel
theorem dX11_parse_25 : decode cX11_parse 25 = .ok (.aload_n 0, 1) := by decide +kernel
theorem dX11_parse_26 : decode cX11_parse 26 = .ok (.iconst 0, 1) := by decide +kernel
theorem dX11_parse_27 : decode cX11_parse 27 = .ok (.putfield 281, 3) := by decide +kernel
theorem dX11_parse_30 : decode cX11_parse 30 = .ok (.aload_n 0, 1) := by decide +kernel
theorem dX11_parse_31 : decode cX11_parse 31 = .ok (.aload_n 0, 1) := by decide +kernel
theorem dX11_parse_32 : decode cX11_parse 32 = .ok (.getfield 7, 3) := by decide +kernel
theorem dX11_parse_35 : decode cX11_parse 35 = .ok (.iconst 1, 1) := by decide +kernel
theorem dX11_parse_36 : decode cX11_parse 36 = .ok (.iaload, 1) := by decide +kernel
theorem dX11_parse_37 : decode cX11_parse 37 = .ok (.bipush 14, 2) := by decide +kernel
theorem dX11_parse_39 : decode cX11_parse 39 = .ok (.if_icmp .ge 18, 3) := by decide +kernel
theorem dX11_parse_42 : decode cX11_parse 42 = .ok (.aload_n 0, 1) := by decide +kernel
theorem dX11_parse_43 : decode cX11_parse 43 = .ok (.aload_n 0, 1) := by decide +kernel
theorem dX11_parse_44 : decode cX11_parse 44 = .ok (.getfield 7, 3) := by decide +kernel
theorem dX11_parse_47 : decode cX11_parse 47 = .ok (.iconst 1, 1) := by decide +kernel
theorem dX11_parse_48 : decode cX11_parse 48 = .ok (.iaload, 1) := by decide +kernel
theorem dX11_parse_49 : decode cX11_parse 49 = .ok (.invokevirtual 296, 3) := by decide +kernel
theorem dX11_parse_52 : decode cX11_parse 52 = .ok (.iconst 4, 1) := by decide +kernel
theorem dX11_parse_53 : decode cX11_parse 53 = .ok (.iadd, 1) := by decide +kernel
theorem dX11_parse_54 : decode cX11_parse 54 = .ok (.goto 6, 3) := by decide +kernel
theorem dX11_parse_57 : decode cX11_parse 57 = .ok (.sipush 2935, 3) := by decide +kernel
theorem dX11_parse_60 : decode cX11_parse 60 = .ok (.putfield 250, 3) := by decide +kernel
theorem dX11_parse_63 : decode cX11_parse 63 = .ok (.aload_n 0, 1) := by decide +kernel
theorem dX11_parse_64 : decode cX11_parse 64 = .ok (.invokevirtual 262, 3) := by decide +kernel
theorem dX11_parse_67 : decode cX11_parse 67 = .ok (.aload_n 0, 1) := by decide +kernel
theorem dX11_parse_68 : decode cX11_parse 68 = .ok (.invokevirtual 299, 3) := by decide +kernel
theorem dX11_parse_71 : decode cX11_parse 71 = .ok (.istore_n 1, 1) := by decide +kernel
theorem dX11_parse_72 : decode cX11_parse 72 = .ok (.iload_n 1, 1) := by decide +kernel
theorem dX11_parse_73 : decode cX11_parse 73 = .ok (.ifCond .lt 7, 3) := by decide +kernel
theorem dX11_parse_76 : decode cX11_parse 76 = .ok (.iconst 1, 1) := by decide +kernel
theorem dX11_parse_77 : decode cX11_parse 77 = .ok (.goto 4, 3) := by decide +kernel
theorem dX11_parse_80 : decode cX11_parse 80 = .ok (.iconst 0, 1) := by decide +kernel
theorem dX11_parse_81 : decode cX11_parse 81 = .ok (.istore_n 2, 1) := by decide +kernel
theorem dX11_parse_82 : decode cX11_parse 82 = .ok (.iload_n 2, 1) := by decide +kernel
theorem dX11_parse_83 : decode cX11_parse 83 = .ok (.ifCond .eq 28, 3) := by decide +kernel
theorem dX11_parse_86 : decode cX11_parse 86 = .ok (.aload_n 0, 1) := by decide +kernel
theorem dX11_parse_87 : decode cX11_parse 87 = .ok (.invokevirtual 262, 3) := by decide +kernel
theorem dX11_parse_90 : decode cX11_parse 90 = .ok (.aload_n 0, 1) := by decide +kernel
theorem dX11_parse_91 : decode cX11_parse 91 = .ok (.iload_n 1, 1) := by decide +kernel
theorem dX11_parse_92 : decode cX11_parse 92 = .ok (.invokevirtual 293, 3) := by decide +kernel
theorem dX11_parse_95 : decode cX11_parse 95 = .ok (.ifCond .eq 14, 3) := by decide +kernel
theorem dX11_parse_98 : decode cX11_parse 98 = .ok (.aload_n 0, 1) := by decide +kernel
theorem dX11_parse_99 : decode cX11_parse 99 = .ok (.getfield 228, 3) := by decide +kernel
theorem dX11_parse_102 : decode cX11_parse 102 = .ok (.ifCond .ne 7, 3) := by decide +kernel
theorem dX11_parse_105 : decode cX11_parse 105 = .ok (.iconst 1, 1) := by decide +kernel
theorem dX11_parse_106 : decode cX11_parse 106 = .ok (.goto 4, 3) := by decide +kernel
theorem dX11_parse_109 : decode cX11_parse 109 = .ok (.iconst 0, 1) := by decide +kernel
theorem dX11_parse_110 : decode cX11_parse 110 = .ok (.istore_n 2, 1) := by decide +kernel
theorem dX11_parse_111 : decode cX11_parse 111 = .ok (.aload_n 0, 1) := by decide +kernel
theorem dX11_parse_112 : decode cX11_parse 112 = .ok (.iconst 0, 1) := by decide +kernel
theorem dX11_parse_113 : decode cX11_parse 113 = .ok (.putfield 214, 3) := by decide +kernel
theorem dX11_parse_116 : decode cX11_parse 116 = .ok (.iload_n 2, 1) := by decide +kernel
theorem dX11_parse_117 : decode cX11_parse 117 = .ok (.ifCond .eq 7, 3) := by decide +kernel
theorem dX11_parse_120 : decode cX11_parse 120 = .ok (.iload_n 1, 1) := by decide +kernel
theorem dX11_parse_121 : decode cX11_parse 121 = .ok (.goto 4, 3) := by decide +kernel
theorem dX11_parse_124 : decode cX11_parse 124 = .ok (.iconst (-1), 1) := by decide +kernel
theorem dX11_parse_125 : decode cX11_parse 125 = .ok (.ireturn, 1) := by decide +kernel
theorem dX11_text_0 : decode cX11_text 0 = .ok (.aload_n 0, 1) := by decide +kernel
theorem dX11_text_1 : decode cX11_text 1 = .ok (.invokevirtual 302, 3) := by decide +kernel
theorem dX11_text_4 : decode cX11_text 4 = .ok (.istore_n 1, 1) := by decide +kernel
theorem dX11_text_5 : decode cX11_text 5 = .ok (.iload_n 1, 1) := by decide +kernel
theorem dX11_text_6 : decode cX11_text 6 = .ok (.ifCond .ge 11, 3) := by decide +kernel
theorem dX11_text_9 : decode cX11_text 9 = .ok (.bipush (-100), 2) := by decide +kernel
theorem dX11_text_11 : decode cX11_text 11 = .ok (.aload_n 0, 1) := by decide +kernel
theorem dX11_text_12 : decode cX11_text 12 = .ok (.getfield 231, 3) := by decide +kernel
theorem dX11_text_15 : decode cX11_text 15 = .ok (.isub, 1) := by decide +kernel
theorem dX11_text_16 : decode cX11_text 16 = .ok (.ireturn, 1) := by decide +kernel
theorem dX11_text_17 : decode cX11_text 17 = .ok (.aload_n 0, 1) := by decide +kernel
theorem dX11_text_18 : decode cX11_text 18 = .ok (.getfield 7, 3) := by decide +kernel
theorem dX11_text_21 : decode cX11_text 21 = .ok (.iconst 1, 1) := by decide +kernel
theorem dX11_text_22 : decode cX11_text 22 = .ok (.iaload, 1) := by decide +kernel
theorem dX11_text_23 : decode cX11_text 23 = .ok (.bipush 14, 2) := by decide +kernel
theorem dX11_text_25 : decode cX11_text 25 = .ok (.if_icmp .ne 6, 3) := by decide +kernel
theorem dX11_text_28 : decode cX11_text 28 = .ok (.ldc 88, 2) := by decide +kernel
theorem dX11_text_30 : decode cX11_text 30 = .ok (.ireturn, 1) := by decide +kernel
theorem dX11_text_31 : decode cX11_text 31 = .ok (.aload_n 0, 1) := by decide +kernel
theorem dX11_text_32 : decode cX11_text 32 = .ok (.aload_n 0, 1) := by decide +kernel
theorem dX11_text_33 : decode cX11_text 33 = .ok (.getfield 7, 3) := by decide +kernel
theorem dX11_text_36 : decode cX11_text 36 = .ok (.iconst 1, 1) := by decide +kernel
theorem dX11_text_37 : decode cX11_text 37 = .ok (.iaload, 1) := by decide +kernel
theorem dX11_text_38 : decode cX11_text 38 = .ok (.invokevirtual 296, 3) := by decide +kernel
theorem dX11_text_41 : decode cX11_text 41 = .ok (.istore_n 2, 1) := by decide +kernel
theorem dX11_text_42 : decode cX11_text 42 = .ok (.aload_n 0, 1) := by decide +kernel
theorem dX11_text_43 : decode cX11_text 43 = .ok (.getfield 7, 3) := by decide +kernel
theorem dX11_text_46 : decode cX11_text 46 = .ok (.iload_n 2, 1) := by decide +kernel
theorem dX11_text_47 : decode cX11_text 47 = .ok (.iconst 0, 1) := by decide +kernel
theorem dX11_text_48 : decode cX11_text 48 = .ok (.iadd, 1) := by decide +kernel
theorem dX11_text_49 : decode cX11_text 49 = .ok (.iload_n 1, 1) := by decide +kernel
theorem dX11_text_50 : decode cX11_text 50 = .ok (.iastore, 1) := by decide +kernel
theorem dX11_text_51 : decode cX11_text 51 = .ok (.aload_n 0, 1) := by decide +kernel
theorem dX11_text_52 : decode cX11_text 52 = .ok (.getfield 7, 3) := by decide +kernel
theorem dX11_text_55 : decode cX11_text 55 = .ok (.iload_n 2, 1) := by decide +kernel
theorem dX11_text_56 : decode cX11_text 56 = .ok (.iconst 1, 1) := by decide +kernel
theorem dX11_text_57 : decode cX11_text 57 = .ok (.iadd, 1) := by decide +kernel
theorem dX11_text_58 : decode cX11_text 58 = .ok (.aload_n 0, 1) := by decide +kernel
theorem dX11_text_59 : decode cX11_text 59 = .ok (.getfield 281, 3) := by decide +kernel
theorem dX11_text_62 : decode cX11_text 62 = .ok (.iastore, 1) := by decide +kernel
theorem dX11_text_63 : decode cX11_text 63 = .ok (.aload_n 0, 1) := by decide +kernel
theorem dX11_text_64 : decode cX11_text 64 = .ok (.getfield 7, 3) := by decide +kernel
theorem dX11_text_67 : decode cX11_text 67 = .ok (.iload_n 2, 1) := by decide +kernel
theorem dX11_text_68 : decode cX11_text 68 = .ok (.iconst 2, 1) := by decide +kernel
theorem dX11_text_69 : decode cX11_text 69 = .ok (.iadd, 1) := by decide +kernel
theorem dX11_text_70 : decode cX11_text 70 = .ok (.aload_n 0, 1) := by decide +kernel
theorem dX11_text_71 : decode cX11_text 71 = .ok (.getfield 253, 3) := by decide +kernel
theorem dX11_text_74 : decode cX11_text 74 = .ok (.iastore, 1) := by decide +kernel
theorem dX11_text_75 : decode cX11_text 75 = .ok (.aload_n 0, 1) := by decide +kernel
theorem dX11_text_76 : decode cX11_text 76 = .ok (.getfield 7, 3) := by decide +kernel
theorem dX11_text_79 : decode cX11_text 79 = .ok (.iconst 1, 1) := by decide +kernel
theorem dX11_text_80 : decode cX11_text 80 = .ok (.dup2, 1) := by decide +kernel
theorem dX11_text_81 : decode cX11_text 81 = .ok (.iaload, 1) := by decide +kernel
theorem dX11_text_82 : decode cX11_text 82 = .ok (.iconst 1, 1) := by decide +kernel
theorem dX11_text_83 : decode cX11_text 83 = .ok (.iadd, 1) := by decide +kernel
theorem dX11_text_84 : decode cX11_text 84 = .ok (.iastore, 1) := by decide +kernel
theorem dX11_text_85 : decode cX11_text 85 = .ok (.aload_n 0, 1) := by decide +kernel
theorem dX11_text_86 : decode cX11_text 86 = .ok (.getfield 7, 3) := by decide +kernel
theorem dX11_text_89 : decode cX11_text 89 = .ok (.iconst 1, 1) := by decide +kernel
theorem dX11_text_90 : decode cX11_text 90 = .ok (.iaload, 1) := by decide +kernel
theorem dX11_text_91 : decode cX11_text 91 = .ok (.iconst 1, 1) := by decide +kernel
theorem dX11_text_92 : decode cX11_text 92 = .ok (.isub, 1) := by decide +kernel
theorem dX11_text_93 : decode cX11_text 93 = .ok (.ireturn, 1) := by decide +kernel
theorem dX11_textTold_0 : decode cX11_textTold 0 = .ok (.aload_n 0, 1) := by decide +kernel
theorem dX11_textTold_1 : decode cX11_textTold 1 = .ok (.iload_n 1, 1) := by decide +kernel
theorem dX11_textTold_2 : decode cX11_textTold 2 = .ok (.invokevirtual 305, 3) := by decide +kernel
theorem dX11_textTold_5 : decode cX11_textTold 5 = .ok (.ifCond .eq 13, 3) := by decide +kernel
theorem dX11_textTold_8 : decode cX11_textTold 8 = .ok (.iload_n 2, 1) := by decide +kernel
theorem dX11_textTold_9 : decode cX11_textTold 9 = .ok (.i2l, 1) := by decide +kernel
theorem dX11_textTold_10 : decode cX11_textTold 10 = .ok (.lconst 0, 1) := by decide +kernel
theorem dX11_textTold_11 : decode cX11_textTold 11 = .ok (.lconst 1, 1) := by decide +kernel
theorem dX11_textTold_12 : decode cX11_textTold 12 = .ok (.invokestatic 71, 3) := by decide +kernel
theorem dX11_textTold_15 : decode cX11_textTold 15 = .ok (.ifCond .ne 6, 3) := by decide +kernel
theorem dX11_textTold_18 : decode cX11_textTold 18 = .ok (.ldc 87, 2) := by decide +kernel
theorem dX11_textTold_20 : decode cX11_textTold 20 = .ok (.ireturn, 1) := by decide +kernel
theorem dX11_textTold_21 : decode cX11_textTold 21 = .ok (.aload_n 0, 1) := by decide +kernel
theorem dX11_textTold_22 : decode cX11_textTold 22 = .ok (.getfield 7, 3) := by decide +kernel
theorem dX11_textTold_25 : decode cX11_textTold 25 = .ok (.aload_n 0, 1) := by decide +kernel
theorem dX11_textTold_26 : decode cX11_textTold 26 = .ok (.iload_n 1, 1) := by decide +kernel
theorem dX11_textTold_27 : decode cX11_textTold 27 = .ok (.invokevirtual 296, 3) := by decide +kernel
theorem dX11_textTold_30 : decode cX11_textTold 30 = .ok (.iload_n 2, 1) := by decide +kernel
theorem dX11_textTold_31 : decode cX11_textTold 31 = .ok (.iadd, 1) := by decide +kernel
theorem dX11_textTold_32 : decode cX11_textTold 32 = .ok (.iaload, 1) := by decide +kernel
theorem dX11_textTold_33 : decode cX11_textTold 33 = .ok (.ireturn, 1) := by decide +kernel
theorem dX11_counts_0 : decode cX11_counts 0 = .ok (.iconst (-1), 1) := by decide +kernel
theorem dX11_counts_1 : decode cX11_counts 1 = .ok (.istore_n 2, 1) := by decide +kernel
theorem dX11_counts_2 : decode cX11_counts 2 = .ok (.iconst 0, 1) := by decide +kernel
theorem dX11_counts_3 : decode cX11_counts 3 = .ok (.istore_n 3, 1) := by decide +kernel
theorem dX11_counts_4 : decode cX11_counts 4 = .ok (.iload_n 3, 1) := by decide +kernel
theorem dX11_counts_5 : decode cX11_counts 5 = .ok (.aload_n 0, 1) := by decide +kernel
theorem dX11_counts_6 : decode cX11_counts 6 = .ok (.getfield 7, 3) := by decide +kernel
theorem dX11_counts_9 : decode cX11_counts 9 = .ok (.iconst 1, 1) := by decide +kernel
theorem dX11_counts_10 : decode cX11_counts 10 = .ok (.iaload, 1) := by decide +kernel
theorem dX11_counts_11 : decode cX11_counts 11 = .ok (.if_icmp .ge 29, 3) := by decide +kernel
theorem dX11_counts_14 : decode cX11_counts 14 = .ok (.aload_n 0, 1) := by decide +kernel
theorem dX11_counts_15 : decode cX11_counts 15 = .ok (.getfield 7, 3) := by decide +kernel
theorem dX11_counts_18 : decode cX11_counts 18 = .ok (.aload_n 0, 1) := by decide +kernel
theorem dX11_counts_19 : decode cX11_counts 19 = .ok (.iload_n 3, 1) := by decide +kernel
theorem dX11_counts_20 : decode cX11_counts 20 = .ok (.invokevirtual 296, 3) := by decide +kernel
theorem dX11_counts_23 : decode cX11_counts 23 = .ok (.iaload, 1) := by decide +kernel
theorem dX11_counts_24 : decode cX11_counts 24 = .ok (.iload_n 1, 1) := by decide +kernel
theorem dX11_counts_25 : decode cX11_counts 25 = .ok (.if_icmp .ne 7, 3) := by decide +kernel
theorem dX11_counts_28 : decode cX11_counts 28 = .ok (.iload_n 3, 1) := by decide +kernel
theorem dX11_counts_29 : decode cX11_counts 29 = .ok (.goto 4, 3) := by decide +kernel
theorem dX11_counts_32 : decode cX11_counts 32 = .ok (.iload_n 2, 1) := by decide +kernel
theorem dX11_counts_33 : decode cX11_counts 33 = .ok (.istore_n 2, 1) := by decide +kernel
theorem dX11_counts_34 : decode cX11_counts 34 = .ok (.iinc 3 1, 3) := by decide +kernel
theorem dX11_counts_37 : decode cX11_counts 37 = .ok (.goto (-33), 3) := by decide +kernel
theorem dX11_counts_40 : decode cX11_counts 40 = .ok (.iload_n 2, 1) := by decide +kernel
theorem dX11_counts_41 : decode cX11_counts 41 = .ok (.ireturn, 1) := by decide +kernel
theorem dX11_why_0 : decode cX11_why 0 = .ok (.iload_n 1, 1) := by decide +kernel
theorem dX11_why_1 : decode cX11_why 1 = .ok (.i2l, 1) := by decide +kernel
theorem dX11_why_2 : decode cX11_why 2 = .ok (.lconst 0, 1) := by decide +kernel
theorem dX11_why_3 : decode cX11_why 3 = .ok (.ldc2_w 146, 3) := by decide +kernel
theorem dX11_why_6 : decode cX11_why 6 = .ok (.invokestatic 71, 3) := by decide +kernel
theorem dX11_why_9 : decode cX11_why 9 = .ok (.ifCond .eq 14, 3) := by decide +kernel
theorem dX11_why_12 : decode cX11_why 12 = .ok (.aload_n 0, 1) := by decide +kernel
theorem dX11_why_13 : decode cX11_why 13 = .ok (.iload_n 1, 1) := by decide +kernel
theorem dX11_why_14 : decode cX11_why 14 = .ok (.invokevirtual 93, 3) := by decide +kernel
theorem dX11_why_17 : decode cX11_why 17 = .ok (.invokestatic 308, 3) := by decide +kernel
theorem dX11_why_20 : decode cX11_why 20 = .ok (.goto 5, 3) := by decide +kernel
theorem dX11_why_23 : decode cX11_why 23 = .ok (.ldc 87, 2) := by decide +kernel
theorem dX11_why_25 : decode cX11_why 25 = .ok (.ireturn, 1) := by decide +kernel
theorem dX11_joined_0 : decode cX11_joined 0 = .ok (.iload_n 0, 1) := by decide +kernel
theorem dX11_joined_1 : decode cX11_joined 1 = .ok (.tableswitch 196 38 62 #[182, 196, 196, 196, 123, 115, 196, 119, 196, 127, 196, 196, 196, 196, 196, 196, 196, 196, 196, 196, 196, 196, 149, 171, 160], 115) := by decide +kernel
theorem dX11_joined_116 : decode cX11_joined 116 = .ok (.iload_n 1, 1) := by decide +kernel
theorem dX11_joined_117 : decode cX11_joined 117 = .ok (.iload_n 2, 1) := by decide +kernel
theorem dX11_joined_118 : decode cX11_joined 118 = .ok (.iadd, 1) := by decide +kernel
theorem dX11_joined_119 : decode cX11_joined 119 = .ok (.ireturn, 1) := by decide +kernel
theorem dX11_joined_120 : decode cX11_joined 120 = .ok (.iload_n 1, 1) := by decide +kernel
theorem dX11_joined_121 : decode cX11_joined 121 = .ok (.iload_n 2, 1) := by decide +kernel
theorem dX11_joined_122 : decode cX11_joined 122 = .ok (.isub, 1) := by decide +kernel
theorem dX11_joined_123 : decode cX11_joined 123 = .ok (.ireturn, 1) := by decide +kernel
theorem dX11_joined_124 : decode cX11_joined 124 = .ok (.iload_n 1, 1) := by decide +kernel
theorem dX11_joined_125 : decode cX11_joined 125 = .ok (.iload_n 2, 1) := by decide +kernel
theorem dX11_joined_126 : decode cX11_joined 126 = .ok (.imul, 1) := by decide +kernel
theorem dX11_joined_127 : decode cX11_joined 127 = .ok (.ireturn, 1) := by decide +kernel
theorem dX11_joined_128 : decode cX11_joined 128 = .ok (.iload_n 2, 1) := by decide +kernel
theorem dX11_joined_129 : decode cX11_joined 129 = .ok (.ifCond .ne 7, 3) := by decide +kernel
theorem dX11_joined_132 : decode cX11_joined 132 = .ok (.iconst 0, 1) := by decide +kernel
theorem dX11_joined_133 : decode cX11_joined 133 = .ok (.goto 16, 3) := by decide +kernel
theorem dX11_joined_136 : decode cX11_joined 136 = .ok (.iload_n 2, 1) := by decide +kernel
theorem dX11_joined_137 : decode cX11_joined 137 = .ok (.iconst (-1), 1) := by decide +kernel
theorem dX11_joined_138 : decode cX11_joined 138 = .ok (.if_icmp .ne 8, 3) := by decide +kernel
theorem dX11_joined_141 : decode cX11_joined 141 = .ok (.iload_n 1, 1) := by decide +kernel
theorem dX11_joined_142 : decode cX11_joined 142 = .ok (.ineg, 1) := by decide +kernel
theorem dX11_joined_143 : decode cX11_joined 143 = .ok (.goto 6, 3) := by decide +kernel
theorem dX11_joined_146 : decode cX11_joined 146 = .ok (.iload_n 1, 1) := by decide +kernel
theorem dX11_joined_147 : decode cX11_joined 147 = .ok (.iload_n 2, 1) := by decide +kernel
theorem dX11_joined_148 : decode cX11_joined 148 = .ok (.idiv, 1) := by decide +kernel
theorem dX11_joined_149 : decode cX11_joined 149 = .ok (.ireturn, 1) := by decide +kernel
theorem dX11_joined_150 : decode cX11_joined 150 = .ok (.iload_n 1, 1) := by decide +kernel
theorem dX11_joined_151 : decode cX11_joined 151 = .ok (.iload_n 2, 1) := by decide +kernel
theorem dX11_joined_152 : decode cX11_joined 152 = .ok (.if_icmp .ge 7, 3) := by decide +kernel
theorem dX11_joined_155 : decode cX11_joined 155 = .ok (.iconst 1, 1) := by decide +kernel
theorem dX11_joined_156 : decode cX11_joined 156 = .ok (.goto 4, 3) := by decide +kernel
theorem dX11_joined_159 : decode cX11_joined 159 = .ok (.iconst 0, 1) := by decide +kernel
theorem dX11_joined_160 : decode cX11_joined 160 = .ok (.ireturn, 1) := by decide +kernel
theorem dX11_joined_161 : decode cX11_joined 161 = .ok (.iload_n 1, 1) := by decide +kernel
theorem dX11_joined_162 : decode cX11_joined 162 = .ok (.iload_n 2, 1) := by decide +kernel
theorem dX11_joined_163 : decode cX11_joined 163 = .ok (.if_icmp .le 7, 3) := by decide +kernel
theorem dX11_joined_166 : decode cX11_joined 166 = .ok (.iconst 1, 1) := by decide +kernel
theorem dX11_joined_167 : decode cX11_joined 167 = .ok (.goto 4, 3) := by decide +kernel
theorem dX11_joined_170 : decode cX11_joined 170 = .ok (.iconst 0, 1) := by decide +kernel
theorem dX11_joined_171 : decode cX11_joined 171 = .ok (.ireturn, 1) := by decide +kernel
theorem dX11_joined_172 : decode cX11_joined 172 = .ok (.iload_n 1, 1) := by decide +kernel
theorem dX11_joined_173 : decode cX11_joined 173 = .ok (.iload_n 2, 1) := by decide +kernel
theorem dX11_joined_174 : decode cX11_joined 174 = .ok (.if_icmp .ne 7, 3) := by decide +kernel
theorem dX11_joined_177 : decode cX11_joined 177 = .ok (.iconst 1, 1) := by decide +kernel
theorem dX11_joined_178 : decode cX11_joined 178 = .ok (.goto 4, 3) := by decide +kernel
theorem dX11_joined_181 : decode cX11_joined 181 = .ok (.iconst 0, 1) := by decide +kernel
theorem dX11_joined_182 : decode cX11_joined 182 = .ok (.ireturn, 1) := by decide +kernel
theorem dX11_joined_183 : decode cX11_joined 183 = .ok (.iload_n 1, 1) := by decide +kernel
theorem dX11_joined_184 : decode cX11_joined 184 = .ok (.ifCond .eq 11, 3) := by decide +kernel
theorem dX11_joined_187 : decode cX11_joined 187 = .ok (.iload_n 2, 1) := by decide +kernel
theorem dX11_joined_188 : decode cX11_joined 188 = .ok (.ifCond .eq 7, 3) := by decide +kernel
theorem dX11_joined_191 : decode cX11_joined 191 = .ok (.iconst 1, 1) := by decide +kernel
theorem dX11_joined_192 : decode cX11_joined 192 = .ok (.goto 4, 3) := by decide +kernel
theorem dX11_joined_195 : decode cX11_joined 195 = .ok (.iconst 0, 1) := by decide +kernel
theorem dX11_joined_196 : decode cX11_joined 196 = .ok (.ireturn, 1) := by decide +kernel
theorem dX11_joined_197 : decode cX11_joined 197 = .ok (.iload_n 1, 1) := by decide +kernel
theorem dX11_joined_198 : decode cX11_joined 198 = .ok (.ifCond .ne 7, 3) := by decide +kernel
theorem dX11_joined_201 : decode cX11_joined 201 = .ok (.iload_n 2, 1) := by decide +kernel
theorem dX11_joined_202 : decode cX11_joined 202 = .ok (.ifCond .eq 7, 3) := by decide +kernel
theorem dX11_joined_205 : decode cX11_joined 205 = .ok (.iconst 1, 1) := by decide +kernel
theorem dX11_joined_206 : decode cX11_joined 206 = .ok (.goto 4, 3) := by decide +kernel
theorem dX11_joined_209 : decode cX11_joined 209 = .ok (.iconst 0, 1) := by decide +kernel
theorem dX11_joined_210 : decode cX11_joined 210 = .ok (.ireturn, 1) := by decide +kernel
theorem dX11_worked_0 : decode cX11_worked 0 = .ok (.iconst 0, 1) := by decide +kernel
theorem dX11_worked_1 : decode cX11_worked 1 = .ok (.istore_n 2, 1) := by decide +kernel
theorem dX11_worked_2 : decode cX11_worked 2 = .ok (.iconst 0, 1) := by decide +kernel
theorem dX11_worked_3 : decode cX11_worked 3 = .ok (.istore_n 3, 1) := by decide +kernel
theorem dX11_worked_4 : decode cX11_worked 4 = .ok (.iload_n 3, 1) := by decide +kernel
theorem dX11_worked_5 : decode cX11_worked 5 = .ok (.aload_n 0, 1) := by decide +kernel
theorem dX11_worked_6 : decode cX11_worked 6 = .ok (.getfield 7, 3) := by decide +kernel
theorem dX11_worked_9 : decode cX11_worked 9 = .ok (.aload_n 0, 1) := by decide +kernel
theorem dX11_worked_10 : decode cX11_worked 10 = .ok (.iload_n 1, 1) := by decide +kernel
theorem dX11_worked_11 : decode cX11_worked 11 = .ok (.invokevirtual 296, 3) := by decide +kernel
theorem dX11_worked_14 : decode cX11_worked 14 = .ok (.iconst 2, 1) := by decide +kernel
theorem dX11_worked_15 : decode cX11_worked 15 = .ok (.iadd, 1) := by decide +kernel
theorem dX11_worked_16 : decode cX11_worked 16 = .ok (.iaload, 1) := by decide +kernel
theorem dX11_worked_17 : decode cX11_worked 17 = .ok (.if_icmp .ge 146, 3) := by decide +kernel
theorem dX11_worked_20 : decode cX11_worked 20 = .ok (.aload_n 0, 1) := by decide +kernel
theorem dX11_worked_21 : decode cX11_worked 21 = .ok (.getfield 7, 3) := by decide +kernel
theorem dX11_worked_24 : decode cX11_worked 24 = .ok (.aload_n 0, 1) := by decide +kernel
theorem dX11_worked_25 : decode cX11_worked 25 = .ok (.iload_n 1, 1) := by decide +kernel
theorem dX11_worked_26 : decode cX11_worked 26 = .ok (.invokevirtual 296, 3) := by decide +kernel
theorem dX11_worked_29 : decode cX11_worked 29 = .ok (.iconst 4, 1) := by decide +kernel
theorem dX11_worked_30 : decode cX11_worked 30 = .ok (.iadd, 1) := by decide +kernel
theorem dX11_worked_31 : decode cX11_worked 31 = .ok (.iconst 2, 1) := by decide +kernel
theorem dX11_worked_32 : decode cX11_worked 32 = .ok (.iload_n 3, 1) := by decide +kernel
theorem dX11_worked_33 : decode cX11_worked 33 = .ok (.imul, 1) := by decide +kernel
theorem dX11_worked_34 : decode cX11_worked 34 = .ok (.iadd, 1) := by decide +kernel
theorem dX11_worked_35 : decode cX11_worked 35 = .ok (.iaload, 1) := by decide +kernel
theorem dX11_worked_36 : decode cX11_worked 36 = .ok (.istore 4, 2) := by decide +kernel
theorem dX11_worked_38 : decode cX11_worked 38 = .ok (.aload_n 0, 1) := by decide +kernel
theorem dX11_worked_39 : decode cX11_worked 39 = .ok (.getfield 7, 3) := by decide +kernel
theorem dX11_worked_42 : decode cX11_worked 42 = .ok (.aload_n 0, 1) := by decide +kernel
theorem dX11_worked_43 : decode cX11_worked 43 = .ok (.iload_n 1, 1) := by decide +kernel
theorem dX11_worked_44 : decode cX11_worked 44 = .ok (.invokevirtual 296, 3) := by decide +kernel
theorem dX11_worked_47 : decode cX11_worked 47 = .ok (.iconst 4, 1) := by decide +kernel
theorem dX11_worked_48 : decode cX11_worked 48 = .ok (.iadd, 1) := by decide +kernel
theorem dX11_worked_49 : decode cX11_worked 49 = .ok (.iconst 2, 1) := by decide +kernel
theorem dX11_worked_50 : decode cX11_worked 50 = .ok (.iload_n 3, 1) := by decide +kernel
theorem dX11_worked_51 : decode cX11_worked 51 = .ok (.imul, 1) := by decide +kernel
theorem dX11_worked_52 : decode cX11_worked 52 = .ok (.iadd, 1) := by decide +kernel
theorem dX11_worked_53 : decode cX11_worked 53 = .ok (.iconst 1, 1) := by decide +kernel
theorem dX11_worked_54 : decode cX11_worked 54 = .ok (.iadd, 1) := by decide +kernel
theorem dX11_worked_55 : decode cX11_worked 55 = .ok (.iaload, 1) := by decide +kernel
theorem dX11_worked_56 : decode cX11_worked 56 = .ok (.istore 5, 2) := by decide +kernel
theorem dX11_worked_58 : decode cX11_worked 58 = .ok (.iload 4, 2) := by decide +kernel
theorem dX11_worked_60 : decode cX11_worked 60 = .ok (.iconst 2, 1) := by decide +kernel
theorem dX11_worked_61 : decode cX11_worked 61 = .ok (.if_icmp .eq 32, 3) := by decide +kernel
theorem dX11_worked_64 : decode cX11_worked 64 = .ok (.aload_n 0, 1) := by decide +kernel
theorem dX11_worked_65 : decode cX11_worked 65 = .ok (.getfield 58, 3) := by decide +kernel
theorem dX11_worked_68 : decode cX11_worked 68 = .ok (.iload_n 2, 1) := by decide +kernel
theorem dX11_worked_69 : decode cX11_worked 69 = .ok (.iload 4, 2) := by decide +kernel
theorem dX11_worked_71 : decode cX11_worked 71 = .ok (.ifCond .ne 8, 3) := by decide +kernel
theorem dX11_worked_74 : decode cX11_worked 74 = .ok (.iload 5, 2) := by decide +kernel
theorem dX11_worked_76 : decode cX11_worked 76 = .ok (.goto 10, 3) := by decide +kernel
theorem dX11_worked_79 : decode cX11_worked 79 = .ok (.aload_n 0, 1) := by decide +kernel
theorem dX11_worked_80 : decode cX11_worked 80 = .ok (.getfield 55, 3) := by decide +kernel
theorem dX11_worked_83 : decode cX11_worked 83 = .ok (.iload 5, 2) := by decide +kernel
theorem dX11_worked_85 : decode cX11_worked 85 = .ok (.iaload, 1) := by decide +kernel
theorem dX11_worked_86 : decode cX11_worked 86 = .ok (.iastore, 1) := by decide +kernel
theorem dX11_worked_87 : decode cX11_worked 87 = .ok (.iinc 2 1, 3) := by decide +kernel
theorem dX11_worked_90 : decode cX11_worked 90 = .ok (.goto 67, 3) := by decide +kernel
theorem dX11_worked_93 : decode cX11_worked 93 = .ok (.iload 5, 2) := by decide +kernel
theorem dX11_worked_95 : decode cX11_worked 95 = .ok (.bipush 33, 2) := by decide +kernel
theorem dX11_worked_97 : decode cX11_worked 97 = .ok (.if_icmp .ne 30, 3) := by decide +kernel
theorem dX11_worked_100 : decode cX11_worked 100 = .ok (.aload_n 0, 1) := by decide +kernel
theorem dX11_worked_101 : decode cX11_worked 101 = .ok (.getfield 58, 3) := by decide +kernel
theorem dX11_worked_104 : decode cX11_worked 104 = .ok (.iload_n 2, 1) := by decide +kernel
theorem dX11_worked_105 : decode cX11_worked 105 = .ok (.iconst 1, 1) := by decide +kernel
theorem dX11_worked_106 : decode cX11_worked 106 = .ok (.isub, 1) := by decide +kernel
theorem dX11_worked_107 : decode cX11_worked 107 = .ok (.aload_n 0, 1) := by decide +kernel
theorem dX11_worked_108 : decode cX11_worked 108 = .ok (.getfield 58, 3) := by decide +kernel
theorem dX11_worked_111 : decode cX11_worked 111 = .ok (.iload_n 2, 1) := by decide +kernel
theorem dX11_worked_112 : decode cX11_worked 112 = .ok (.iconst 1, 1) := by decide +kernel
theorem dX11_worked_113 : decode cX11_worked 113 = .ok (.isub, 1) := by decide +kernel
theorem dX11_worked_114 : decode cX11_worked 114 = .ok (.iaload, 1) := by decide +kernel
theorem dX11_worked_115 : decode cX11_worked 115 = .ok (.ifCond .ne 7, 3) := by decide +kernel
theorem dX11_worked_118 : decode cX11_worked 118 = .ok (.iconst 1, 1) := by decide +kernel
theorem dX11_worked_119 : decode cX11_worked 119 = .ok (.goto 4, 3) := by decide +kernel
theorem dX11_worked_122 : decode cX11_worked 122 = .ok (.iconst 0, 1) := by decide +kernel
theorem dX11_worked_123 : decode cX11_worked 123 = .ok (.iastore, 1) := by decide +kernel
theorem dX11_worked_124 : decode cX11_worked 124 = .ok (.goto 33, 3) := by decide +kernel
theorem dX11_worked_127 : decode cX11_worked 127 = .ok (.iinc 2 (-1), 3) := by decide +kernel
theorem dX11_worked_130 : decode cX11_worked 130 = .ok (.aload_n 0, 1) := by decide +kernel
theorem dX11_worked_131 : decode cX11_worked 131 = .ok (.getfield 58, 3) := by decide +kernel
theorem dX11_worked_134 : decode cX11_worked 134 = .ok (.iload_n 2, 1) := by decide +kernel
theorem dX11_worked_135 : decode cX11_worked 135 = .ok (.iconst 1, 1) := by decide +kernel
theorem dX11_worked_136 : decode cX11_worked 136 = .ok (.isub, 1) := by decide +kernel
theorem dX11_worked_137 : decode cX11_worked 137 = .ok (.iload 5, 2) := by decide +kernel
theorem dX11_worked_139 : decode cX11_worked 139 = .ok (.aload_n 0, 1) := by decide +kernel
theorem dX11_worked_140 : decode cX11_worked 140 = .ok (.getfield 58, 3) := by decide +kernel
theorem dX11_worked_143 : decode cX11_worked 143 = .ok (.iload_n 2, 1) := by decide +kernel
theorem dX11_worked_144 : decode cX11_worked 144 = .ok (.iconst 1, 1) := by decide +kernel
theorem dX11_worked_145 : decode cX11_worked 145 = .ok (.isub, 1) := by decide +kernel
theorem dX11_worked_146 : decode cX11_worked 146 = .ok (.iaload, 1) := by decide +kernel
theorem dX11_worked_147 : decode cX11_worked 147 = .ok (.aload_n 0, 1) := by decide +kernel
theorem dX11_worked_148 : decode cX11_worked 148 = .ok (.getfield 58, 3) := by decide +kernel
theorem dX11_worked_151 : decode cX11_worked 151 = .ok (.iload_n 2, 1) := by decide +kernel
theorem dX11_worked_152 : decode cX11_worked 152 = .ok (.iaload, 1) := by decide +kernel
theorem dX11_worked_153 : decode cX11_worked 153 = .ok (.invokestatic 311, 3) := by decide +kernel
theorem dX11_worked_156 : decode cX11_worked 156 = .ok (.iastore, 1) := by decide +kernel
theorem dX11_worked_157 : decode cX11_worked 157 = .ok (.iinc 3 1, 3) := by decide +kernel
theorem dX11_worked_160 : decode cX11_worked 160 = .ok (.goto (-156), 3) := by decide +kernel
theorem dX11_worked_163 : decode cX11_worked 163 = .ok (.aload_n 0, 1) := by decide +kernel
theorem dX11_worked_164 : decode cX11_worked 164 = .ok (.getfield 58, 3) := by decide +kernel
theorem dX11_worked_167 : decode cX11_worked 167 = .ok (.iconst 0, 1) := by decide +kernel
theorem dX11_worked_168 : decode cX11_worked 168 = .ok (.iaload, 1) := by decide +kernel
theorem dX11_worked_169 : decode cX11_worked 169 = .ok (.ireturn, 1) := by decide +kernel
theorem dX11_isSheet_0 : decode cX11_isSheet 0 = .ok (.iload_n 0, 1) := by decide +kernel
theorem dX11_isSheet_1 : decode cX11_isSheet 1 = .ok (.i2l, 1) := by decide +kernel
theorem dX11_isSheet_2 : decode cX11_isSheet 2 = .ok (.lconst 0, 1) := by decide +kernel
theorem dX11_isSheet_3 : decode cX11_isSheet 3 = .ok (.ldc2_w 144, 3) := by decide +kernel
theorem dX11_isSheet_6 : decode cX11_isSheet 6 = .ok (.invokestatic 71, 3) := by decide +kernel
theorem dX11_isSheet_9 : decode cX11_isSheet 9 = .ok (.ireturn, 1) := by decide +kernel
theorem dX11_sheet_0 : decode cX11_sheet 0 = .ok (.iload_n 1, 1) := by decide +kernel
theorem dX11_sheet_1 : decode cX11_sheet 1 = .ok (.invokestatic 314, 3) := by decide +kernel
theorem dX11_sheet_4 : decode cX11_sheet 4 = .ok (.ifCond .eq 25, 3) := by decide +kernel
theorem dX11_sheet_7 : decode cX11_sheet 7 = .ok (.iload_n 2, 1) := by decide +kernel
theorem dX11_sheet_8 : decode cX11_sheet 8 = .ok (.i2l, 1) := by decide +kernel
theorem dX11_sheet_9 : decode cX11_sheet 9 = .ok (.ldc2_w 317, 3) := by decide +kernel
theorem dX11_sheet_12 : decode cX11_sheet 12 = .ok (.lconst 1, 1) := by decide +kernel
theorem dX11_sheet_13 : decode cX11_sheet 13 = .ok (.invokestatic 71, 3) := by decide +kernel
theorem dX11_sheet_16 : decode cX11_sheet 16 = .ok (.ifCond .eq 13, 3) := by decide +kernel
theorem dX11_sheet_19 : decode cX11_sheet 19 = .ok (.iload_n 2, 1) := by decide +kernel
theorem dX11_sheet_20 : decode cX11_sheet 20 = .ok (.ifCond .lt 12, 3) := by decide +kernel
theorem dX11_sheet_23 : decode cX11_sheet 23 = .ok (.iload_n 3, 1) := by decide +kernel
theorem dX11_sheet_24 : decode cX11_sheet 24 = .ok (.bipush 24, 2) := by decide +kernel
theorem dX11_sheet_26 : decode cX11_sheet 26 = .ok (.if_icmp .le 6, 3) := by decide +kernel
theorem dX11_sheet_29 : decode cX11_sheet 29 = .ok (.ldc 87, 2) := by decide +kernel
theorem dX11_sheet_31 : decode cX11_sheet 31 = .ok (.ireturn, 1) := by decide +kernel
theorem dX11_sheet_32 : decode cX11_sheet 32 = .ok (.iload_n 2, 1) := by decide +kernel
theorem dX11_sheet_33 : decode cX11_sheet 33 = .ok (.ifCond .lt 11, 3) := by decide +kernel
theorem dX11_sheet_36 : decode cX11_sheet 36 = .ok (.iload_n 3, 1) := by decide +kernel
theorem dX11_sheet_37 : decode cX11_sheet 37 = .ok (.ifCond .ge 7, 3) := by decide +kernel
theorem dX11_sheet_40 : decode cX11_sheet 40 = .ok (.ldc_w 319, 3) := by decide +kernel
theorem dX11_sheet_43 : decode cX11_sheet 43 = .ok (.ireturn, 1) := by decide +kernel
theorem dX11_sheet_44 : decode cX11_sheet 44 = .ok (.aload_n 0, 1) := by decide +kernel
theorem dX11_sheet_45 : decode cX11_sheet 45 = .ok (.getfield 19, 3) := by decide +kernel
theorem dX11_sheet_48 : decode cX11_sheet 48 = .ok (.iload_n 1, 1) := by decide +kernel
theorem dX11_sheet_49 : decode cX11_sheet 49 = .ok (.iload_n 2, 1) := by decide +kernel
theorem dX11_sheet_50 : decode cX11_sheet 50 = .ok (.iastore, 1) := by decide +kernel
theorem dX11_sheet_51 : decode cX11_sheet 51 = .ok (.aload_n 0, 1) := by decide +kernel
theorem dX11_sheet_52 : decode cX11_sheet 52 = .ok (.getfield 22, 3) := by decide +kernel
theorem dX11_sheet_55 : decode cX11_sheet 55 = .ok (.iload_n 1, 1) := by decide +kernel
theorem dX11_sheet_56 : decode cX11_sheet 56 = .ok (.iload_n 2, 1) := by decide +kernel
theorem dX11_sheet_57 : decode cX11_sheet 57 = .ok (.ifCond .ge 7, 3) := by decide +kernel
theorem dX11_sheet_60 : decode cX11_sheet 60 = .ok (.iconst 0, 1) := by decide +kernel
theorem dX11_sheet_61 : decode cX11_sheet 61 = .ok (.goto 4, 3) := by decide +kernel
theorem dX11_sheet_64 : decode cX11_sheet 64 = .ok (.iload_n 3, 1) := by decide +kernel
theorem dX11_sheet_65 : decode cX11_sheet 65 = .ok (.iastore, 1) := by decide +kernel
theorem dX11_sheet_66 : decode cX11_sheet 66 = .ok (.iconst 0, 1) := by decide +kernel
theorem dX11_sheet_67 : decode cX11_sheet 67 = .ok (.istore 4, 2) := by decide +kernel
theorem dX11_sheet_69 : decode cX11_sheet 69 = .ok (.iload 4, 2) := by decide +kernel
theorem dX11_sheet_71 : decode cX11_sheet 71 = .ok (.bipush 24, 2) := by decide +kernel
theorem dX11_sheet_73 : decode cX11_sheet 73 = .ok (.if_icmp .ge 22, 3) := by decide +kernel
theorem dX11_sheet_76 : decode cX11_sheet 76 = .ok (.aload_n 0, 1) := by decide +kernel
theorem dX11_sheet_77 : decode cX11_sheet 77 = .ok (.getfield 25, 3) := by decide +kernel
theorem dX11_sheet_80 : decode cX11_sheet 80 = .ok (.bipush 24, 2) := by decide +kernel
theorem dX11_sheet_82 : decode cX11_sheet 82 = .ok (.iload_n 1, 1) := by decide +kernel
theorem dX11_sheet_83 : decode cX11_sheet 83 = .ok (.imul, 1) := by decide +kernel
theorem dX11_sheet_84 : decode cX11_sheet 84 = .ok (.iload 4, 2) := by decide +kernel
theorem dX11_sheet_86 : decode cX11_sheet 86 = .ok (.iadd, 1) := by decide +kernel
theorem dX11_sheet_87 : decode cX11_sheet 87 = .ok (.iconst 0, 1) := by decide +kernel
theorem dX11_sheet_88 : decode cX11_sheet 88 = .ok (.iastore, 1) := by decide +kernel
theorem dX11_sheet_89 : decode cX11_sheet 89 = .ok (.iinc 4 1, 3) := by decide +kernel
theorem dX11_sheet_92 : decode cX11_sheet 92 = .ok (.goto (-23), 3) := by decide +kernel
theorem dX11_sheet_95 : decode cX11_sheet 95 = .ok (.aload_n 0, 1) := by decide +kernel
theorem dX11_sheet_96 : decode cX11_sheet 96 = .ok (.getfield 22, 3) := by decide +kernel
theorem dX11_sheet_99 : decode cX11_sheet 99 = .ok (.iload_n 1, 1) := by decide +kernel
theorem dX11_sheet_100 : decode cX11_sheet 100 = .ok (.iaload, 1) := by decide +kernel
theorem dX11_sheet_101 : decode cX11_sheet 101 = .ok (.ireturn, 1) := by decide +kernel
theorem dX11_mark_0 : decode cX11_mark 0 = .ok (.iload_n 1, 1) := by decide +kernel
theorem dX11_mark_1 : decode cX11_mark 1 = .ok (.invokestatic 314, 3) := by decide +kernel
theorem dX11_mark_4 : decode cX11_mark 4 = .ok (.ifCond .ne 6, 3) := by decide +kernel
theorem dX11_mark_7 : decode cX11_mark 7 = .ok (.ldc 87, 2) := by decide +kernel
theorem dX11_mark_9 : decode cX11_mark 9 = .ok (.ireturn, 1) := by decide +kernel
theorem dX11_mark_10 : decode cX11_mark 10 = .ok (.aload_n 0, 1) := by decide +kernel
theorem dX11_mark_11 : decode cX11_mark 11 = .ok (.getfield 19, 3) := by decide +kernel
theorem dX11_mark_14 : decode cX11_mark 14 = .ok (.iload_n 1, 1) := by decide +kernel
theorem dX11_mark_15 : decode cX11_mark 15 = .ok (.iaload, 1) := by decide +kernel
theorem dX11_mark_16 : decode cX11_mark 16 = .ok (.ifCond .ge 7, 3) := by decide +kernel
theorem dX11_mark_19 : decode cX11_mark 19 = .ok (.ldc_w 320, 3) := by decide +kernel
theorem dX11_mark_22 : decode cX11_mark 22 = .ok (.ireturn, 1) := by decide +kernel
theorem dX11_mark_23 : decode cX11_mark 23 = .ok (.iload_n 2, 1) := by decide +kernel
theorem dX11_mark_24 : decode cX11_mark 24 = .ok (.i2l, 1) := by decide +kernel
theorem dX11_mark_25 : decode cX11_mark 25 = .ok (.lconst 0, 1) := by decide +kernel
theorem dX11_mark_26 : decode cX11_mark 26 = .ok (.aload_n 0, 1) := by decide +kernel
theorem dX11_mark_27 : decode cX11_mark 27 = .ok (.getfield 22, 3) := by decide +kernel
theorem dX11_mark_30 : decode cX11_mark 30 = .ok (.iload_n 1, 1) := by decide +kernel
theorem dX11_mark_31 : decode cX11_mark 31 = .ok (.iaload, 1) := by decide +kernel
theorem dX11_mark_32 : decode cX11_mark 32 = .ok (.iconst 1, 1) := by decide +kernel
theorem dX11_mark_33 : decode cX11_mark 33 = .ok (.isub, 1) := by decide +kernel
theorem dX11_mark_34 : decode cX11_mark 34 = .ok (.i2l, 1) := by decide +kernel
theorem dX11_mark_35 : decode cX11_mark 35 = .ok (.invokestatic 71, 3) := by decide +kernel
theorem dX11_mark_38 : decode cX11_mark 38 = .ok (.ifCond .ne 7, 3) := by decide +kernel
theorem dX11_mark_41 : decode cX11_mark 41 = .ok (.ldc_w 321, 3) := by decide +kernel
theorem dX11_mark_44 : decode cX11_mark 44 = .ok (.ireturn, 1) := by decide +kernel
theorem dX11_mark_45 : decode cX11_mark 45 = .ok (.aload_n 0, 1) := by decide +kernel
theorem dX11_mark_46 : decode cX11_mark 46 = .ok (.getfield 19, 3) := by decide +kernel
theorem dX11_mark_49 : decode cX11_mark 49 = .ok (.iload_n 1, 1) := by decide +kernel
theorem dX11_mark_50 : decode cX11_mark 50 = .ok (.iaload, 1) := by decide +kernel
theorem dX11_mark_51 : decode cX11_mark 51 = .ok (.ifCond .ne 12, 3) := by decide +kernel
theorem dX11_mark_54 : decode cX11_mark 54 = .ok (.iload_n 3, 1) := by decide +kernel
theorem dX11_mark_55 : decode cX11_mark 55 = .ok (.ldc 70, 2) := by decide +kernel
theorem dX11_mark_57 : decode cX11_mark 57 = .ok (.if_icmp .ne 6, 3) := by decide +kernel
theorem dX11_mark_60 : decode cX11_mark 60 = .ok (.ldc 129, 2) := by decide +kernel
theorem dX11_mark_62 : decode cX11_mark 62 = .ok (.ireturn, 1) := by decide +kernel
theorem dX11_mark_63 : decode cX11_mark 63 = .ok (.aload_n 0, 1) := by decide +kernel
theorem dX11_mark_64 : decode cX11_mark 64 = .ok (.getfield 19, 3) := by decide +kernel
theorem dX11_mark_67 : decode cX11_mark 67 = .ok (.iload_n 1, 1) := by decide +kernel
theorem dX11_mark_68 : decode cX11_mark 68 = .ok (.iaload, 1) := by decide +kernel
theorem dX11_mark_69 : decode cX11_mark 69 = .ok (.iconst 1, 1) := by decide +kernel
theorem dX11_mark_70 : decode cX11_mark 70 = .ok (.if_icmp .ne 26, 3) := by decide +kernel
theorem dX11_mark_73 : decode cX11_mark 73 = .ok (.iload_n 3, 1) := by decide +kernel
theorem dX11_mark_74 : decode cX11_mark 74 = .ok (.ldc 70, 2) := by decide +kernel
theorem dX11_mark_76 : decode cX11_mark 76 = .ok (.if_icmp .eq 20, 3) := by decide +kernel
theorem dX11_mark_79 : decode cX11_mark 79 = .ok (.iload_n 3, 1) := by decide +kernel
theorem dX11_mark_80 : decode cX11_mark 80 = .ok (.i2l, 1) := by decide +kernel
theorem dX11_mark_81 : decode cX11_mark 81 = .ok (.ldc2_w 322, 3) := by decide +kernel
theorem dX11_mark_84 : decode cX11_mark 84 = .ok (.ldc2_w 324, 3) := by decide +kernel
theorem dX11_mark_87 : decode cX11_mark 87 = .ok (.invokestatic 71, 3) := by decide +kernel
theorem dX11_mark_90 : decode cX11_mark 90 = .ok (.ifCond .ne 6, 3) := by decide +kernel
theorem dX11_mark_93 : decode cX11_mark 93 = .ok (.ldc 87, 2) := by decide +kernel
theorem dX11_mark_95 : decode cX11_mark 95 = .ok (.ireturn, 1) := by decide +kernel
theorem dX11_mark_96 : decode cX11_mark 96 = .ok (.aload_n 0, 1) := by decide +kernel
theorem dX11_mark_97 : decode cX11_mark 97 = .ok (.getfield 25, 3) := by decide +kernel
theorem dX11_mark_100 : decode cX11_mark 100 = .ok (.bipush 24, 2) := by decide +kernel
theorem dX11_mark_102 : decode cX11_mark 102 = .ok (.iload_n 1, 1) := by decide +kernel
theorem dX11_mark_103 : decode cX11_mark 103 = .ok (.imul, 1) := by decide +kernel
theorem dX11_mark_104 : decode cX11_mark 104 = .ok (.iload_n 2, 1) := by decide +kernel
theorem dX11_mark_105 : decode cX11_mark 105 = .ok (.iadd, 1) := by decide +kernel
theorem dX11_mark_106 : decode cX11_mark 106 = .ok (.aload_n 0, 1) := by decide +kernel
theorem dX11_mark_107 : decode cX11_mark 107 = .ok (.getfield 19, 3) := by decide +kernel
theorem dX11_mark_110 : decode cX11_mark 110 = .ok (.iload_n 1, 1) := by decide +kernel
theorem dX11_mark_111 : decode cX11_mark 111 = .ok (.iaload, 1) := by decide +kernel
theorem dX11_mark_112 : decode cX11_mark 112 = .ok (.ifCond .ne 13, 3) := by decide +kernel
theorem dX11_mark_115 : decode cX11_mark 115 = .ok (.iload_n 3, 1) := by decide +kernel
theorem dX11_mark_116 : decode cX11_mark 116 = .ok (.bipush 16, 2) := by decide +kernel
theorem dX11_mark_118 : decode cX11_mark 118 = .ok (.ishl, 1) := by decide +kernel
theorem dX11_mark_119 : decode cX11_mark 119 = .ok (.bipush 16, 2) := by decide +kernel
theorem dX11_mark_121 : decode cX11_mark 121 = .ok (.ishr, 1) := by decide +kernel
theorem dX11_mark_122 : decode cX11_mark 122 = .ok (.goto 4, 3) := by decide +kernel
theorem dX11_mark_125 : decode cX11_mark 125 = .ok (.iload_n 3, 1) := by decide +kernel
theorem dX11_mark_126 : decode cX11_mark 126 = .ok (.iastore, 1) := by decide +kernel
theorem dX11_mark_127 : decode cX11_mark 127 = .ok (.iconst 1, 1) := by decide +kernel
theorem dX11_mark_128 : decode cX11_mark 128 = .ok (.ireturn, 1) := by decide +kernel
theorem dX11_pour_0 : decode cX11_pour 0 = .ok (.iload_n 1, 1) := by decide +kernel
theorem dX11_pour_1 : decode cX11_pour 1 = .ok (.invokestatic 314, 3) := by decide +kernel
theorem dX11_pour_4 : decode cX11_pour 4 = .ok (.ifCond .ne 6, 3) := by decide +kernel
theorem dX11_pour_7 : decode cX11_pour 7 = .ok (.ldc 87, 2) := by decide +kernel
theorem dX11_pour_9 : decode cX11_pour 9 = .ok (.ireturn, 1) := by decide +kernel
theorem dX11_pour_10 : decode cX11_pour 10 = .ok (.aload_n 0, 1) := by decide +kernel
theorem dX11_pour_11 : decode cX11_pour 11 = .ok (.getfield 19, 3) := by decide +kernel
theorem dX11_pour_14 : decode cX11_pour 14 = .ok (.iload_n 1, 1) := by decide +kernel
theorem dX11_pour_15 : decode cX11_pour 15 = .ok (.iaload, 1) := by decide +kernel
theorem dX11_pour_16 : decode cX11_pour 16 = .ok (.ifCond .ge 7, 3) := by decide +kernel
theorem dX11_pour_19 : decode cX11_pour 19 = .ok (.ldc_w 320, 3) := by decide +kernel
theorem dX11_pour_22 : decode cX11_pour 22 = .ok (.ireturn, 1) := by decide +kernel
theorem dX11_pour_23 : decode cX11_pour 23 = .ok (.iconst 0, 1) := by decide +kernel
theorem dX11_pour_24 : decode cX11_pour 24 = .ok (.istore_n 2, 1) := by decide +kernel
theorem dX11_pour_25 : decode cX11_pour 25 = .ok (.iconst 0, 1) := by decide +kernel
theorem dX11_pour_26 : decode cX11_pour 26 = .ok (.istore_n 3, 1) := by decide +kernel
theorem dX11_pour_27 : decode cX11_pour 27 = .ok (.iload_n 3, 1) := by decide +kernel
theorem dX11_pour_28 : decode cX11_pour 28 = .ok (.aload_n 0, 1) := by decide +kernel
theorem dX11_pour_29 : decode cX11_pour 29 = .ok (.getfield 22, 3) := by decide +kernel
theorem dX11_pour_32 : decode cX11_pour 32 = .ok (.iload_n 1, 1) := by decide +kernel
theorem dX11_pour_33 : decode cX11_pour 33 = .ok (.iaload, 1) := by decide +kernel
theorem dX11_pour_34 : decode cX11_pour 34 = .ok (.if_icmp .ge 86, 3) := by decide +kernel
theorem dX11_pour_37 : decode cX11_pour 37 = .ok (.iload_n 3, 1) := by decide +kernel
theorem dX11_pour_38 : decode cX11_pour 38 = .ok (.aload_n 0, 1) := by decide +kernel
theorem dX11_pour_39 : decode cX11_pour 39 = .ok (.getfield 7, 3) := by decide +kernel
theorem dX11_pour_42 : decode cX11_pour 42 = .ok (.iconst 0, 1) := by decide +kernel
theorem dX11_pour_43 : decode cX11_pour 43 = .ok (.iaload, 1) := by decide +kernel
theorem dX11_pour_44 : decode cX11_pour 44 = .ok (.if_icmp .ge 76, 3) := by decide +kernel
theorem dX11_pour_47 : decode cX11_pour 47 = .ok (.aload_n 0, 1) := by decide +kernel
theorem dX11_pour_48 : decode cX11_pour 48 = .ok (.getfield 25, 3) := by decide +kernel
theorem dX11_pour_51 : decode cX11_pour 51 = .ok (.bipush 24, 2) := by decide +kernel
theorem dX11_pour_53 : decode cX11_pour 53 = .ok (.iload_n 1, 1) := by decide +kernel
theorem dX11_pour_54 : decode cX11_pour 54 = .ok (.imul, 1) := by decide +kernel
theorem dX11_pour_55 : decode cX11_pour 55 = .ok (.iload_n 3, 1) := by decide +kernel
theorem dX11_pour_56 : decode cX11_pour 56 = .ok (.iadd, 1) := by decide +kernel
theorem dX11_pour_57 : decode cX11_pour 57 = .ok (.iaload, 1) := by decide +kernel
theorem dX11_pour_58 : decode cX11_pour 58 = .ok (.istore 4, 2) := by decide +kernel
theorem dX11_pour_60 : decode cX11_pour 60 = .ok (.iload 4, 2) := by decide +kernel
theorem dX11_pour_62 : decode cX11_pour 62 = .ok (.ldc 70, 2) := by decide +kernel
theorem dX11_pour_64 : decode cX11_pour 64 = .ok (.if_icmp .ne 12, 3) := by decide +kernel
theorem dX11_pour_67 : decode cX11_pour 67 = .ok (.aload_n 0, 1) := by decide +kernel
theorem dX11_pour_68 : decode cX11_pour 68 = .ok (.iload_n 3, 1) := by decide +kernel
theorem dX11_pour_69 : decode cX11_pour 69 = .ok (.iconst 4, 1) := by decide +kernel
theorem dX11_pour_70 : decode cX11_pour 70 = .ok (.invokevirtual 97, 3) := by decide +kernel
theorem dX11_pour_73 : decode cX11_pour 73 = .ok (.goto 11, 3) := by decide +kernel
theorem dX11_pour_76 : decode cX11_pour 76 = .ok (.iload 4, 2) := by decide +kernel
theorem dX11_pour_78 : decode cX11_pour 78 = .ok (.iconst 0, 1) := by decide +kernel
theorem dX11_pour_79 : decode cX11_pour 79 = .ok (.bipush 99, 2) := by decide +kernel
theorem dX11_pour_81 : decode cX11_pour 81 = .ok (.invokestatic 104, 3) := by decide +kernel
theorem dX11_pour_84 : decode cX11_pour 84 = .ok (.istore 5, 2) := by decide +kernel
theorem dX11_pour_86 : decode cX11_pour 86 = .ok (.iload_n 2, 1) := by decide +kernel
theorem dX11_pour_87 : decode cX11_pour 87 = .ok (.iload 5, 2) := by decide +kernel
theorem dX11_pour_89 : decode cX11_pour 89 = .ok (.aload_n 0, 1) := by decide +kernel
theorem dX11_pour_90 : decode cX11_pour 90 = .ok (.bipush 72, 2) := by decide +kernel
theorem dX11_pour_92 : decode cX11_pour 92 = .ok (.bipush 7, 2) := by decide +kernel
theorem dX11_pour_94 : decode cX11_pour 94 = .ok (.iload_n 3, 1) := by decide +kernel
theorem dX11_pour_95 : decode cX11_pour 95 = .ok (.imul, 1) := by decide +kernel
theorem dX11_pour_96 : decode cX11_pour 96 = .ok (.iadd, 1) := by decide +kernel
theorem dX11_pour_97 : decode cX11_pour 97 = .ok (.iconst 4, 1) := by decide +kernel
theorem dX11_pour_98 : decode cX11_pour 98 = .ok (.iadd, 1) := by decide +kernel
theorem dX11_pour_99 : decode cX11_pour 99 = .ok (.iload 5, 2) := by decide +kernel
theorem dX11_pour_101 : decode cX11_pour 101 = .ok (.invokevirtual 130, 3) := by decide +kernel
theorem dX11_pour_104 : decode cX11_pour 104 = .ok (.if_icmp .ne 7, 3) := by decide +kernel
theorem dX11_pour_107 : decode cX11_pour 107 = .ok (.iconst 0, 1) := by decide +kernel
theorem dX11_pour_108 : decode cX11_pour 108 = .ok (.goto 4, 3) := by decide +kernel
theorem dX11_pour_111 : decode cX11_pour 111 = .ok (.iconst 1, 1) := by decide +kernel
theorem dX11_pour_112 : decode cX11_pour 112 = .ok (.iadd, 1) := by decide +kernel
theorem dX11_pour_113 : decode cX11_pour 113 = .ok (.istore_n 2, 1) := by decide +kernel
theorem dX11_pour_114 : decode cX11_pour 114 = .ok (.iinc 3 1, 3) := by decide +kernel
theorem dX11_pour_117 : decode cX11_pour 117 = .ok (.goto (-90), 3) := by decide +kernel
theorem dX11_pour_120 : decode cX11_pour 120 = .ok (.iload_n 2, 1) := by decide +kernel
theorem dX11_pour_121 : decode cX11_pour 121 = .ok (.ireturn, 1) := by decide +kernel
theorem dX11_reads_0 : decode cX11_reads 0 = .ok (.iload_n 1, 1) := by decide +kernel
theorem dX11_reads_1 : decode cX11_reads 1 = .ok (.invokestatic 314, 3) := by decide +kernel
theorem dX11_reads_4 : decode cX11_reads 4 = .ok (.ifCond .ne 6, 3) := by decide +kernel
theorem dX11_reads_7 : decode cX11_reads 7 = .ok (.ldc 87, 2) := by decide +kernel
theorem dX11_reads_9 : decode cX11_reads 9 = .ok (.ireturn, 1) := by decide +kernel
theorem dX11_reads_10 : decode cX11_reads 10 = .ok (.aload_n 0, 1) := by decide +kernel
theorem dX11_reads_11 : decode cX11_reads 11 = .ok (.getfield 19, 3) := by decide +kernel
theorem dX11_reads_14 : decode cX11_reads 14 = .ok (.iload_n 1, 1) := by decide +kernel
theorem dX11_reads_15 : decode cX11_reads 15 = .ok (.iaload, 1) := by decide +kernel
theorem dX11_reads_16 : decode cX11_reads 16 = .ok (.ifCond .ge 7, 3) := by decide +kernel
theorem dX11_reads_19 : decode cX11_reads 19 = .ok (.ldc_w 320, 3) := by decide +kernel
theorem dX11_reads_22 : decode cX11_reads 22 = .ok (.ireturn, 1) := by decide +kernel
theorem dX11_reads_23 : decode cX11_reads 23 = .ok (.iconst 0, 1) := by decide +kernel
theorem dX11_reads_24 : decode cX11_reads 24 = .ok (.istore_n 2, 1) := by decide +kernel
theorem dX11_reads_25 : decode cX11_reads 25 = .ok (.iload_n 2, 1) := by decide +kernel
theorem dX11_reads_26 : decode cX11_reads 26 = .ok (.aload_n 0, 1) := by decide +kernel
theorem dX11_reads_27 : decode cX11_reads 27 = .ok (.getfield 22, 3) := by decide +kernel
theorem dX11_reads_30 : decode cX11_reads 30 = .ok (.iload_n 1, 1) := by decide +kernel
theorem dX11_reads_31 : decode cX11_reads 31 = .ok (.iaload, 1) := by decide +kernel
theorem dX11_reads_32 : decode cX11_reads 32 = .ok (.if_icmp .ge 49, 3) := by decide +kernel
theorem dX11_reads_35 : decode cX11_reads 35 = .ok (.aload_n 0, 1) := by decide +kernel
theorem dX11_reads_36 : decode cX11_reads 36 = .ok (.getfield 25, 3) := by decide +kernel
theorem dX11_reads_39 : decode cX11_reads 39 = .ok (.bipush 24, 2) := by decide +kernel
theorem dX11_reads_41 : decode cX11_reads 41 = .ok (.iload_n 1, 1) := by decide +kernel
theorem dX11_reads_42 : decode cX11_reads 42 = .ok (.imul, 1) := by decide +kernel
theorem dX11_reads_43 : decode cX11_reads 43 = .ok (.iload_n 2, 1) := by decide +kernel
theorem dX11_reads_44 : decode cX11_reads 44 = .ok (.iadd, 1) := by decide +kernel
theorem dX11_reads_45 : decode cX11_reads 45 = .ok (.iaload, 1) := by decide +kernel
theorem dX11_reads_46 : decode cX11_reads 46 = .ok (.istore_n 3, 1) := by decide +kernel
theorem dX11_reads_47 : decode cX11_reads 47 = .ok (.iload_n 3, 1) := by decide +kernel
theorem dX11_reads_48 : decode cX11_reads 48 = .ok (.ldc 70, 2) := by decide +kernel
theorem dX11_reads_50 : decode cX11_reads 50 = .ok (.if_icmp .eq 25, 3) := by decide +kernel
theorem dX11_reads_53 : decode cX11_reads 53 = .ok (.iload_n 2, 1) := by decide +kernel
theorem dX11_reads_54 : decode cX11_reads 54 = .ok (.aload_n 0, 1) := by decide +kernel
theorem dX11_reads_55 : decode cX11_reads 55 = .ok (.getfield 7, 3) := by decide +kernel
theorem dX11_reads_58 : decode cX11_reads 58 = .ok (.iconst 0, 1) := by decide +kernel
theorem dX11_reads_59 : decode cX11_reads 59 = .ok (.iaload, 1) := by decide +kernel
theorem dX11_reads_60 : decode cX11_reads 60 = .ok (.if_icmp .ge 13, 3) := by decide +kernel
theorem dX11_reads_63 : decode cX11_reads 63 = .ok (.iload_n 3, 1) := by decide +kernel
theorem dX11_reads_64 : decode cX11_reads 64 = .ok (.aload_n 0, 1) := by decide +kernel
theorem dX11_reads_65 : decode cX11_reads 65 = .ok (.iload_n 2, 1) := by decide +kernel
theorem dX11_reads_66 : decode cX11_reads 66 = .ok (.iconst 5, 1) := by decide +kernel
theorem dX11_reads_67 : decode cX11_reads 67 = .ok (.invokevirtual 97, 3) := by decide +kernel
theorem dX11_reads_70 : decode cX11_reads 70 = .ok (.if_icmp .eq 5, 3) := by decide +kernel
theorem dX11_reads_73 : decode cX11_reads 73 = .ok (.iload_n 2, 1) := by decide +kernel
theorem dX11_reads_74 : decode cX11_reads 74 = .ok (.ireturn, 1) := by decide +kernel
theorem dX11_reads_75 : decode cX11_reads 75 = .ok (.iinc 2 1, 3) := by decide +kernel
theorem dX11_reads_78 : decode cX11_reads 78 = .ok (.goto (-53), 3) := by decide +kernel
theorem dX11_reads_81 : decode cX11_reads 81 = .ok (.ldc 70, 2) := by decide +kernel
theorem dX11_reads_83 : decode cX11_reads 83 = .ok (.ireturn, 1) := by decide +kernel
theorem dX11_cut_0 : decode cX11_cut 0 = .ok (.iload_n 1, 1) := by decide +kernel
theorem dX11_cut_1 : decode cX11_cut 1 = .ok (.invokestatic 314, 3) := by decide +kernel
theorem dX11_cut_4 : decode cX11_cut 4 = .ok (.ifCond .eq 13, 3) := by decide +kernel
theorem dX11_cut_7 : decode cX11_cut 7 = .ok (.iload_n 2, 1) := by decide +kernel
theorem dX11_cut_8 : decode cX11_cut 8 = .ok (.i2l, 1) := by decide +kernel
theorem dX11_cut_9 : decode cX11_cut 9 = .ok (.lconst 0, 1) := by decide +kernel
theorem dX11_cut_10 : decode cX11_cut 10 = .ok (.lconst 1, 1) := by decide +kernel
theorem dX11_cut_11 : decode cX11_cut 11 = .ok (.invokestatic 71, 3) := by decide +kernel
theorem dX11_cut_14 : decode cX11_cut 14 = .ok (.ifCond .ne 6, 3) := by decide +kernel
theorem dX11_cut_17 : decode cX11_cut 17 = .ok (.ldc 87, 2) := by decide +kernel
theorem dX11_cut_19 : decode cX11_cut 19 = .ok (.ireturn, 1) := by decide +kernel
theorem dX11_cut_20 : decode cX11_cut 20 = .ok (.aload_n 0, 1) := by decide +kernel
theorem dX11_cut_21 : decode cX11_cut 21 = .ok (.getfield 19, 3) := by decide +kernel
theorem dX11_cut_24 : decode cX11_cut 24 = .ok (.iload_n 1, 1) := by decide +kernel
theorem dX11_cut_25 : decode cX11_cut 25 = .ok (.iaload, 1) := by decide +kernel
theorem dX11_cut_26 : decode cX11_cut 26 = .ok (.ifCond .ge 7, 3) := by decide +kernel
theorem dX11_cut_29 : decode cX11_cut 29 = .ok (.ldc_w 320, 3) := by decide +kernel
theorem dX11_cut_32 : decode cX11_cut 32 = .ok (.ireturn, 1) := by decide +kernel
theorem dX11_cut_33 : decode cX11_cut 33 = .ok (.iconst (-1), 1) := by decide +kernel
theorem dX11_cut_34 : decode cX11_cut 34 = .ok (.istore_n 3, 1) := by decide +kernel
theorem dX11_cut_35 : decode cX11_cut 35 = .ok (.iconst 0, 1) := by decide +kernel
theorem dX11_cut_36 : decode cX11_cut 36 = .ok (.istore 4, 2) := by decide +kernel
theorem dX11_cut_38 : decode cX11_cut 38 = .ok (.iconst 0, 1) := by decide +kernel
theorem dX11_cut_39 : decode cX11_cut 39 = .ok (.istore 5, 2) := by decide +kernel
theorem dX11_cut_41 : decode cX11_cut 41 = .ok (.iload 5, 2) := by decide +kernel
theorem dX11_cut_43 : decode cX11_cut 43 = .ok (.aload_n 0, 1) := by decide +kernel
theorem dX11_cut_44 : decode cX11_cut 44 = .ok (.getfield 7, 3) := by decide +kernel
theorem dX11_cut_47 : decode cX11_cut 47 = .ok (.iconst 0, 1) := by decide +kernel
theorem dX11_cut_48 : decode cX11_cut 48 = .ok (.iaload, 1) := by decide +kernel
theorem dX11_cut_49 : decode cX11_cut 49 = .ok (.if_icmp .ge 93, 3) := by decide +kernel
theorem dX11_cut_52 : decode cX11_cut 52 = .ok (.iconst 0, 1) := by decide +kernel
theorem dX11_cut_53 : decode cX11_cut 53 = .ok (.istore 6, 2) := by decide +kernel
theorem dX11_cut_55 : decode cX11_cut 55 = .ok (.iconst 0, 1) := by decide +kernel
theorem dX11_cut_56 : decode cX11_cut 56 = .ok (.istore 7, 2) := by decide +kernel
theorem dX11_cut_58 : decode cX11_cut 58 = .ok (.iload 7, 2) := by decide +kernel
theorem dX11_cut_60 : decode cX11_cut 60 = .ok (.aload_n 0, 1) := by decide +kernel
theorem dX11_cut_61 : decode cX11_cut 61 = .ok (.getfield 22, 3) := by decide +kernel
theorem dX11_cut_64 : decode cX11_cut 64 = .ok (.iload_n 1, 1) := by decide +kernel
theorem dX11_cut_65 : decode cX11_cut 65 = .ok (.iaload, 1) := by decide +kernel
theorem dX11_cut_66 : decode cX11_cut 66 = .ok (.if_icmp .ge 52, 3) := by decide +kernel
theorem dX11_cut_69 : decode cX11_cut 69 = .ok (.aload_n 0, 1) := by decide +kernel
theorem dX11_cut_70 : decode cX11_cut 70 = .ok (.getfield 25, 3) := by decide +kernel
theorem dX11_cut_73 : decode cX11_cut 73 = .ok (.bipush 24, 2) := by decide +kernel
theorem dX11_cut_75 : decode cX11_cut 75 = .ok (.iload_n 1, 1) := by decide +kernel
theorem dX11_cut_76 : decode cX11_cut 76 = .ok (.imul, 1) := by decide +kernel
theorem dX11_cut_77 : decode cX11_cut 77 = .ok (.iload 7, 2) := by decide +kernel
theorem dX11_cut_79 : decode cX11_cut 79 = .ok (.iadd, 1) := by decide +kernel
theorem dX11_cut_80 : decode cX11_cut 80 = .ok (.iaload, 1) := by decide +kernel
theorem dX11_cut_81 : decode cX11_cut 81 = .ok (.istore 8, 2) := by decide +kernel
theorem dX11_cut_83 : decode cX11_cut 83 = .ok (.iload 6, 2) := by decide +kernel
theorem dX11_cut_85 : decode cX11_cut 85 = .ok (.iload 8, 2) := by decide +kernel
theorem dX11_cut_87 : decode cX11_cut 87 = .ok (.ldc 70, 2) := by decide +kernel
theorem dX11_cut_89 : decode cX11_cut 89 = .ok (.if_icmp .ne 7, 3) := by decide +kernel
theorem dX11_cut_92 : decode cX11_cut 92 = .ok (.iconst 0, 1) := by decide +kernel
theorem dX11_cut_93 : decode cX11_cut 93 = .ok (.goto 16, 3) := by decide +kernel
theorem dX11_cut_96 : decode cX11_cut 96 = .ok (.iload 8, 2) := by decide +kernel
theorem dX11_cut_98 : decode cX11_cut 98 = .ok (.aload_n 0, 1) := by decide +kernel
theorem dX11_cut_99 : decode cX11_cut 99 = .ok (.iload 5, 2) := by decide +kernel
theorem dX11_cut_101 : decode cX11_cut 101 = .ok (.iload 7, 2) := by decide +kernel
theorem dX11_cut_103 : decode cX11_cut 103 = .ok (.invokevirtual 116, 3) := by decide +kernel
theorem dX11_cut_106 : decode cX11_cut 106 = .ok (.invokestatic 326, 3) := by decide +kernel
theorem dX11_cut_109 : decode cX11_cut 109 = .ok (.iadd, 1) := by decide +kernel
theorem dX11_cut_110 : decode cX11_cut 110 = .ok (.istore 6, 2) := by decide +kernel
theorem dX11_cut_112 : decode cX11_cut 112 = .ok (.iinc 7 1, 3) := by decide +kernel
theorem dX11_cut_115 : decode cX11_cut 115 = .ok (.goto (-57), 3) := by decide +kernel
theorem dX11_cut_118 : decode cX11_cut 118 = .ok (.iload_n 3, 1) := by decide +kernel
theorem dX11_cut_119 : decode cX11_cut 119 = .ok (.ifCond .lt 10, 3) := by decide +kernel
theorem dX11_cut_122 : decode cX11_cut 122 = .ok (.iload 6, 2) := by decide +kernel
theorem dX11_cut_124 : decode cX11_cut 124 = .ok (.iload 4, 2) := by decide +kernel
theorem dX11_cut_126 : decode cX11_cut 126 = .ok (.if_icmp .ge 10, 3) := by decide +kernel
theorem dX11_cut_129 : decode cX11_cut 129 = .ok (.iload 5, 2) := by decide +kernel
theorem dX11_cut_131 : decode cX11_cut 131 = .ok (.istore_n 3, 1) := by decide +kernel
theorem dX11_cut_132 : decode cX11_cut 132 = .ok (.iload 6, 2) := by decide +kernel
theorem dX11_cut_134 : decode cX11_cut 134 = .ok (.istore 4, 2) := by decide +kernel
theorem dX11_cut_136 : decode cX11_cut 136 = .ok (.iinc 5 1, 3) := by decide +kernel
theorem dX11_cut_139 : decode cX11_cut 139 = .ok (.goto (-98), 3) := by decide +kernel
theorem dX11_cut_142 : decode cX11_cut 142 = .ok (.iload_n 3, 1) := by decide +kernel
theorem dX11_cut_143 : decode cX11_cut 143 = .ok (.ifCond .ge 8, 3) := by decide +kernel
theorem dX11_cut_146 : decode cX11_cut 146 = .ok (.ldc 70, 2) := by decide +kernel
theorem dX11_cut_148 : decode cX11_cut 148 = .ok (.goto 13, 3) := by decide +kernel
theorem dX11_cut_151 : decode cX11_cut 151 = .ok (.iload_n 2, 1) := by decide +kernel
theorem dX11_cut_152 : decode cX11_cut 152 = .ok (.ifCond .ne 7, 3) := by decide +kernel
theorem dX11_cut_155 : decode cX11_cut 155 = .ok (.iload_n 3, 1) := by decide +kernel
theorem dX11_cut_156 : decode cX11_cut 156 = .ok (.goto 5, 3) := by decide +kernel
theorem dX11_cut_159 : decode cX11_cut 159 = .ok (.iload 4, 2) := by decide +kernel
theorem dX11_cut_161 : decode cX11_cut 161 = .ok (.ireturn, 1) := by decide +kernel
theorem dX11_copy_0 : decode cX11_copy 0 = .ok (.iload_n 1, 1) := by decide +kernel
theorem dX11_copy_1 : decode cX11_copy 1 = .ok (.invokestatic 314, 3) := by decide +kernel
theorem dX11_copy_4 : decode cX11_copy 4 = .ok (.ifCond .eq 10, 3) := by decide +kernel
theorem dX11_copy_7 : decode cX11_copy 7 = .ok (.iload_n 3, 1) := by decide +kernel
theorem dX11_copy_8 : decode cX11_copy 8 = .ok (.invokestatic 314, 3) := by decide +kernel
theorem dX11_copy_11 : decode cX11_copy 11 = .ok (.ifCond .ne 6, 3) := by decide +kernel
theorem dX11_copy_14 : decode cX11_copy 14 = .ok (.ldc 87, 2) := by decide +kernel
theorem dX11_copy_16 : decode cX11_copy 16 = .ok (.ireturn, 1) := by decide +kernel
theorem dX11_copy_17 : decode cX11_copy 17 = .ok (.aload_n 0, 1) := by decide +kernel
theorem dX11_copy_18 : decode cX11_copy 18 = .ok (.getfield 19, 3) := by decide +kernel
theorem dX11_copy_21 : decode cX11_copy 21 = .ok (.iload_n 1, 1) := by decide +kernel
theorem dX11_copy_22 : decode cX11_copy 22 = .ok (.iaload, 1) := by decide +kernel
theorem dX11_copy_23 : decode cX11_copy 23 = .ok (.ifCond .lt 12, 3) := by decide +kernel
theorem dX11_copy_26 : decode cX11_copy 26 = .ok (.aload_n 0, 1) := by decide +kernel
theorem dX11_copy_27 : decode cX11_copy 27 = .ok (.getfield 19, 3) := by decide +kernel
theorem dX11_copy_30 : decode cX11_copy 30 = .ok (.iload_n 3, 1) := by decide +kernel
theorem dX11_copy_31 : decode cX11_copy 31 = .ok (.iaload, 1) := by decide +kernel
theorem dX11_copy_32 : decode cX11_copy 32 = .ok (.ifCond .ge 7, 3) := by decide +kernel
theorem dX11_copy_35 : decode cX11_copy 35 = .ok (.ldc_w 320, 3) := by decide +kernel
theorem dX11_copy_38 : decode cX11_copy 38 = .ok (.ireturn, 1) := by decide +kernel
theorem dX11_copy_39 : decode cX11_copy 39 = .ok (.aload_n 0, 1) := by decide +kernel
theorem dX11_copy_40 : decode cX11_copy 40 = .ok (.getfield 19, 3) := by decide +kernel
theorem dX11_copy_43 : decode cX11_copy 43 = .ok (.iload_n 1, 1) := by decide +kernel
theorem dX11_copy_44 : decode cX11_copy 44 = .ok (.iaload, 1) := by decide +kernel
theorem dX11_copy_45 : decode cX11_copy 45 = .ok (.aload_n 0, 1) := by decide +kernel
theorem dX11_copy_46 : decode cX11_copy 46 = .ok (.getfield 19, 3) := by decide +kernel
theorem dX11_copy_49 : decode cX11_copy 49 = .ok (.iload_n 3, 1) := by decide +kernel
theorem dX11_copy_50 : decode cX11_copy 50 = .ok (.iaload, 1) := by decide +kernel
theorem dX11_copy_51 : decode cX11_copy 51 = .ok (.if_icmp .eq 6, 3) := by decide +kernel
theorem dX11_copy_54 : decode cX11_copy 54 = .ok (.ldc 129, 2) := by decide +kernel
theorem dX11_copy_56 : decode cX11_copy 56 = .ok (.ireturn, 1) := by decide +kernel
theorem dX11_copy_57 : decode cX11_copy 57 = .ok (.iload_n 2, 1) := by decide +kernel
theorem dX11_copy_58 : decode cX11_copy 58 = .ok (.ifCond .lt 48, 3) := by decide +kernel
theorem dX11_copy_61 : decode cX11_copy 61 = .ok (.iload 4, 2) := by decide +kernel
theorem dX11_copy_63 : decode cX11_copy 63 = .ok (.ifCond .lt 43, 3) := by decide +kernel
theorem dX11_copy_66 : decode cX11_copy 66 = .ok (.iload 5, 2) := by decide +kernel
theorem dX11_copy_68 : decode cX11_copy 68 = .ok (.ifCond .lt 38, 3) := by decide +kernel
theorem dX11_copy_71 : decode cX11_copy 71 = .ok (.iload_n 2, 1) := by decide +kernel
theorem dX11_copy_72 : decode cX11_copy 72 = .ok (.i2l, 1) := by decide +kernel
theorem dX11_copy_73 : decode cX11_copy 73 = .ok (.iload 5, 2) := by decide +kernel
theorem dX11_copy_75 : decode cX11_copy 75 = .ok (.i2l, 1) := by decide +kernel
theorem dX11_copy_76 : decode cX11_copy 76 = .ok (.ladd, 1) := by decide +kernel
theorem dX11_copy_77 : decode cX11_copy 77 = .ok (.aload_n 0, 1) := by decide +kernel
theorem dX11_copy_78 : decode cX11_copy 78 = .ok (.getfield 22, 3) := by decide +kernel
theorem dX11_copy_81 : decode cX11_copy 81 = .ok (.iload_n 1, 1) := by decide +kernel
theorem dX11_copy_82 : decode cX11_copy 82 = .ok (.iaload, 1) := by decide +kernel
theorem dX11_copy_83 : decode cX11_copy 83 = .ok (.i2l, 1) := by decide +kernel
theorem dX11_copy_84 : decode cX11_copy 84 = .ok (.lcmp, 1) := by decide +kernel
theorem dX11_copy_85 : decode cX11_copy 85 = .ok (.ifCond .gt 21, 3) := by decide +kernel
theorem dX11_copy_88 : decode cX11_copy 88 = .ok (.iload 4, 2) := by decide +kernel
theorem dX11_copy_90 : decode cX11_copy 90 = .ok (.i2l, 1) := by decide +kernel
theorem dX11_copy_91 : decode cX11_copy 91 = .ok (.iload 5, 2) := by decide +kernel
theorem dX11_copy_93 : decode cX11_copy 93 = .ok (.i2l, 1) := by decide +kernel
theorem dX11_copy_94 : decode cX11_copy 94 = .ok (.ladd, 1) := by decide +kernel
theorem dX11_copy_95 : decode cX11_copy 95 = .ok (.aload_n 0, 1) := by decide +kernel
theorem dX11_copy_96 : decode cX11_copy 96 = .ok (.getfield 22, 3) := by decide +kernel
theorem dX11_copy_99 : decode cX11_copy 99 = .ok (.iload_n 3, 1) := by decide +kernel
theorem dX11_copy_100 : decode cX11_copy 100 = .ok (.iaload, 1) := by decide +kernel
theorem dX11_copy_101 : decode cX11_copy 101 = .ok (.i2l, 1) := by decide +kernel
theorem dX11_copy_102 : decode cX11_copy 102 = .ok (.lcmp, 1) := by decide +kernel
theorem dX11_copy_103 : decode cX11_copy 103 = .ok (.ifCond .le 7, 3) := by decide +kernel
theorem dX11_copy_106 : decode cX11_copy 106 = .ok (.ldc_w 321, 3) := by decide +kernel
theorem dX11_copy_109 : decode cX11_copy 109 = .ok (.ireturn, 1) := by decide +kernel
theorem dX11_copy_110 : decode cX11_copy 110 = .ok (.iconst 0, 1) := by decide +kernel
theorem dX11_copy_111 : decode cX11_copy 111 = .ok (.istore 6, 2) := by decide +kernel
theorem dX11_copy_113 : decode cX11_copy 113 = .ok (.iload 6, 2) := by decide +kernel
theorem dX11_copy_115 : decode cX11_copy 115 = .ok (.iload 5, 2) := by decide +kernel
theorem dX11_copy_117 : decode cX11_copy 117 = .ok (.if_icmp .ge 30, 3) := by decide +kernel
theorem dX11_copy_120 : decode cX11_copy 120 = .ok (.aload_n 0, 1) := by decide +kernel
theorem dX11_copy_121 : decode cX11_copy 121 = .ok (.getfield 61, 3) := by decide +kernel
theorem dX11_copy_124 : decode cX11_copy 124 = .ok (.iload 6, 2) := by decide +kernel
theorem dX11_copy_126 : decode cX11_copy 126 = .ok (.aload_n 0, 1) := by decide +kernel
theorem dX11_copy_127 : decode cX11_copy 127 = .ok (.getfield 25, 3) := by decide +kernel
theorem dX11_copy_130 : decode cX11_copy 130 = .ok (.bipush 24, 2) := by decide +kernel
theorem dX11_copy_132 : decode cX11_copy 132 = .ok (.iload_n 1, 1) := by decide +kernel
theorem dX11_copy_133 : decode cX11_copy 133 = .ok (.imul, 1) := by decide +kernel
theorem dX11_copy_134 : decode cX11_copy 134 = .ok (.iload_n 2, 1) := by decide +kernel
theorem dX11_copy_135 : decode cX11_copy 135 = .ok (.iadd, 1) := by decide +kernel
theorem dX11_copy_136 : decode cX11_copy 136 = .ok (.iload 6, 2) := by decide +kernel
theorem dX11_copy_138 : decode cX11_copy 138 = .ok (.iadd, 1) := by decide +kernel
theorem dX11_copy_139 : decode cX11_copy 139 = .ok (.iaload, 1) := by decide +kernel
theorem dX11_copy_140 : decode cX11_copy 140 = .ok (.iastore, 1) := by decide +kernel
theorem dX11_copy_141 : decode cX11_copy 141 = .ok (.iinc 6 1, 3) := by decide +kernel
theorem dX11_copy_144 : decode cX11_copy 144 = .ok (.goto (-31), 3) := by decide +kernel
theorem dX11_copy_147 : decode cX11_copy 147 = .ok (.iconst 0, 1) := by decide +kernel
theorem dX11_copy_148 : decode cX11_copy 148 = .ok (.istore 6, 2) := by decide +kernel
theorem dX11_copy_150 : decode cX11_copy 150 = .ok (.iload 6, 2) := by decide +kernel
theorem dX11_copy_152 : decode cX11_copy 152 = .ok (.iload 5, 2) := by decide +kernel
theorem dX11_copy_154 : decode cX11_copy 154 = .ok (.if_icmp .ge 31, 3) := by decide +kernel
theorem dX11_copy_157 : decode cX11_copy 157 = .ok (.aload_n 0, 1) := by decide +kernel
theorem dX11_copy_158 : decode cX11_copy 158 = .ok (.getfield 25, 3) := by decide +kernel
theorem dX11_copy_161 : decode cX11_copy 161 = .ok (.bipush 24, 2) := by decide +kernel
theorem dX11_copy_163 : decode cX11_copy 163 = .ok (.iload_n 3, 1) := by decide +kernel
theorem dX11_copy_164 : decode cX11_copy 164 = .ok (.imul, 1) := by decide +kernel
theorem dX11_copy_165 : decode cX11_copy 165 = .ok (.iload 4, 2) := by decide +kernel
theorem dX11_copy_167 : decode cX11_copy 167 = .ok (.iadd, 1) := by decide +kernel
theorem dX11_copy_168 : decode cX11_copy 168 = .ok (.iload 6, 2) := by decide +kernel
theorem dX11_copy_170 : decode cX11_copy 170 = .ok (.iadd, 1) := by decide +kernel
theorem dX11_copy_171 : decode cX11_copy 171 = .ok (.aload_n 0, 1) := by decide +kernel
theorem dX11_copy_172 : decode cX11_copy 172 = .ok (.getfield 61, 3) := by decide +kernel
theorem dX11_copy_175 : decode cX11_copy 175 = .ok (.iload 6, 2) := by decide +kernel
theorem dX11_copy_177 : decode cX11_copy 177 = .ok (.iaload, 1) := by decide +kernel
theorem dX11_copy_178 : decode cX11_copy 178 = .ok (.iastore, 1) := by decide +kernel
theorem dX11_copy_179 : decode cX11_copy 179 = .ok (.iinc 6 1, 3) := by decide +kernel
theorem dX11_copy_182 : decode cX11_copy 182 = .ok (.goto (-32), 3) := by decide +kernel
theorem dX11_copy_185 : decode cX11_copy 185 = .ok (.iload 5, 2) := by decide +kernel
theorem dX11_copy_187 : decode cX11_copy 187 = .ok (.ireturn, 1) := by decide +kernel
theorem dX11_isSlot_0 : decode cX11_isSlot 0 = .ok (.iload_n 0, 1) := by decide +kernel
theorem dX11_isSlot_1 : decode cX11_isSlot 1 = .ok (.i2l, 1) := by decide +kernel
theorem dX11_isSlot_2 : decode cX11_isSlot 2 = .ok (.lconst 0, 1) := by decide +kernel
theorem dX11_isSlot_3 : decode cX11_isSlot 3 = .ok (.ldc2_w 133, 3) := by decide +kernel
theorem dX11_isSlot_6 : decode cX11_isSlot 6 = .ok (.invokestatic 71, 3) := by decide +kernel
theorem dX11_isSlot_9 : decode cX11_isSlot 9 = .ok (.ireturn, 1) := by decide +kernel
theorem dX11_lay_0 : decode cX11_lay 0 = .ok (.iload_n 2, 1) := by decide +kernel
theorem dX11_lay_1 : decode cX11_lay 1 = .ok (.ifCond .eq 33, 3) := by decide +kernel
theorem dX11_lay_4 : decode cX11_lay 4 = .ok (.iload_n 2, 1) := by decide +kernel
theorem dX11_lay_5 : decode cX11_lay 5 = .ok (.iconst 3, 1) := by decide +kernel
theorem dX11_lay_6 : decode cX11_lay 6 = .ok (.if_icmp .eq 28, 3) := by decide +kernel
theorem dX11_lay_9 : decode cX11_lay 9 = .ok (.iload_n 2, 1) := by decide +kernel
theorem dX11_lay_10 : decode cX11_lay 10 = .ok (.iconst 1, 1) := by decide +kernel
theorem dX11_lay_11 : decode cX11_lay 11 = .ok (.if_icmp .ne 11, 3) := by decide +kernel
theorem dX11_lay_14 : decode cX11_lay 14 = .ok (.aload_n 0, 1) := by decide +kernel
theorem dX11_lay_15 : decode cX11_lay 15 = .ok (.iload_n 3, 1) := by decide +kernel
theorem dX11_lay_16 : decode cX11_lay 16 = .ok (.invokevirtual 111, 3) := by decide +kernel
theorem dX11_lay_19 : decode cX11_lay 19 = .ok (.ifCond .ne 15, 3) := by decide +kernel
theorem dX11_lay_22 : decode cX11_lay 22 = .ok (.iload_n 2, 1) := by decide +kernel
theorem dX11_lay_23 : decode cX11_lay 23 = .ok (.iconst 2, 1) := by decide +kernel
theorem dX11_lay_24 : decode cX11_lay 24 = .ok (.if_icmp .ne 14, 3) := by decide +kernel
theorem dX11_lay_27 : decode cX11_lay 27 = .ok (.iload_n 3, 1) := by decide +kernel
theorem dX11_lay_28 : decode cX11_lay 28 = .ok (.invokestatic 314, 3) := by decide +kernel
theorem dX11_lay_31 : decode cX11_lay 31 = .ok (.ifCond .eq 7, 3) := by decide +kernel
theorem dX11_lay_34 : decode cX11_lay 34 = .ok (.iconst 1, 1) := by decide +kernel
theorem dX11_lay_35 : decode cX11_lay 35 = .ok (.goto 4, 3) := by decide +kernel
theorem dX11_lay_38 : decode cX11_lay 38 = .ok (.iconst 0, 1) := by decide +kernel
theorem dX11_lay_39 : decode cX11_lay 39 = .ok (.istore 4, 2) := by decide +kernel
theorem dX11_lay_41 : decode cX11_lay 41 = .ok (.iload_n 1, 1) := by decide +kernel
theorem dX11_lay_42 : decode cX11_lay 42 = .ok (.invokestatic 329, 3) := by decide +kernel
theorem dX11_lay_45 : decode cX11_lay 45 = .ok (.ifCond .eq 8, 3) := by decide +kernel
theorem dX11_lay_48 : decode cX11_lay 48 = .ok (.iload 4, 2) := by decide +kernel
theorem dX11_lay_50 : decode cX11_lay 50 = .ok (.ifCond .ne 6, 3) := by decide +kernel
theorem dX11_lay_53 : decode cX11_lay 53 = .ok (.ldc 87, 2) := by decide +kernel
theorem dX11_lay_55 : decode cX11_lay 55 = .ok (.ireturn, 1) := by decide +kernel
theorem dX11_lay_56 : decode cX11_lay 56 = .ok (.iload_n 2, 1) := by decide +kernel
theorem dX11_lay_57 : decode cX11_lay 57 = .ok (.iconst 2, 1) := by decide +kernel
theorem dX11_lay_58 : decode cX11_lay 58 = .ok (.if_icmp .ne 16, 3) := by decide +kernel
theorem dX11_lay_61 : decode cX11_lay 61 = .ok (.aload_n 0, 1) := by decide +kernel
theorem dX11_lay_62 : decode cX11_lay 62 = .ok (.getfield 19, 3) := by decide +kernel
theorem dX11_lay_65 : decode cX11_lay 65 = .ok (.iload_n 3, 1) := by decide +kernel
theorem dX11_lay_66 : decode cX11_lay 66 = .ok (.iaload, 1) := by decide +kernel
theorem dX11_lay_67 : decode cX11_lay 67 = .ok (.ifCond .ge 7, 3) := by decide +kernel
theorem dX11_lay_70 : decode cX11_lay 70 = .ok (.ldc_w 320, 3) := by decide +kernel
theorem dX11_lay_73 : decode cX11_lay 73 = .ok (.ireturn, 1) := by decide +kernel
theorem dX11_lay_74 : decode cX11_lay 74 = .ok (.aload_n 0, 1) := by decide +kernel
theorem dX11_lay_75 : decode cX11_lay 75 = .ok (.getfield 28, 3) := by decide +kernel
theorem dX11_lay_78 : decode cX11_lay 78 = .ok (.iload_n 1, 1) := by decide +kernel
theorem dX11_lay_79 : decode cX11_lay 79 = .ok (.iaload, 1) := by decide +kernel
theorem dX11_lay_80 : decode cX11_lay 80 = .ok (.istore 5, 2) := by decide +kernel
theorem dX11_lay_82 : decode cX11_lay 82 = .ok (.aload_n 0, 1) := by decide +kernel
theorem dX11_lay_83 : decode cX11_lay 83 = .ok (.getfield 28, 3) := by decide +kernel
theorem dX11_lay_86 : decode cX11_lay 86 = .ok (.iload_n 1, 1) := by decide +kernel
theorem dX11_lay_87 : decode cX11_lay 87 = .ok (.iload_n 2, 1) := by decide +kernel
theorem dX11_lay_88 : decode cX11_lay 88 = .ok (.iastore, 1) := by decide +kernel
theorem dX11_lay_89 : decode cX11_lay 89 = .ok (.aload_n 0, 1) := by decide +kernel
theorem dX11_lay_90 : decode cX11_lay 90 = .ok (.getfield 31, 3) := by decide +kernel
theorem dX11_lay_93 : decode cX11_lay 93 = .ok (.iload_n 1, 1) := by decide +kernel
theorem dX11_lay_94 : decode cX11_lay 94 = .ok (.iload_n 2, 1) := by decide +kernel
theorem dX11_lay_95 : decode cX11_lay 95 = .ok (.iconst 1, 1) := by decide +kernel
theorem dX11_lay_96 : decode cX11_lay 96 = .ok (.if_icmp .ne 12, 3) := by decide +kernel
theorem dX11_lay_99 : decode cX11_lay 99 = .ok (.aload_n 0, 1) := by decide +kernel
theorem dX11_lay_100 : decode cX11_lay 100 = .ok (.iload_n 3, 1) := by decide +kernel
theorem dX11_lay_101 : decode cX11_lay 101 = .ok (.iconst 0, 1) := by decide +kernel
theorem dX11_lay_102 : decode cX11_lay 102 = .ok (.invokevirtual 97, 3) := by decide +kernel
theorem dX11_lay_105 : decode cX11_lay 105 = .ok (.goto 4, 3) := by decide +kernel
theorem dX11_lay_108 : decode cX11_lay 108 = .ok (.iload_n 3, 1) := by decide +kernel
theorem dX11_lay_109 : decode cX11_lay 109 = .ok (.iastore, 1) := by decide +kernel
theorem dX11_lay_110 : decode cX11_lay 110 = .ok (.aload_n 0, 1) := by decide +kernel
theorem dX11_lay_111 : decode cX11_lay 111 = .ok (.getfield 34, 3) := by decide +kernel
theorem dX11_lay_114 : decode cX11_lay 114 = .ok (.iload_n 1, 1) := by decide +kernel
theorem dX11_lay_115 : decode cX11_lay 115 = .ok (.iload_n 2, 1) := by decide +kernel
theorem dX11_lay_116 : decode cX11_lay 116 = .ok (.iconst 1, 1) := by decide +kernel
theorem dX11_lay_117 : decode cX11_lay 117 = .ok (.if_icmp .ne 11, 3) := by decide +kernel
theorem dX11_lay_120 : decode cX11_lay 120 = .ok (.aload_n 0, 1) := by decide +kernel
theorem dX11_lay_121 : decode cX11_lay 121 = .ok (.iload_n 3, 1) := by decide +kernel
theorem dX11_lay_122 : decode cX11_lay 122 = .ok (.invokevirtual 119, 3) := by decide +kernel
theorem dX11_lay_125 : decode cX11_lay 125 = .ok (.goto 4, 3) := by decide +kernel
theorem dX11_lay_128 : decode cX11_lay 128 = .ok (.iconst 0, 1) := by decide +kernel
theorem dX11_lay_129 : decode cX11_lay 129 = .ok (.iastore, 1) := by decide +kernel
theorem dX11_lay_130 : decode cX11_lay 130 = .ok (.iload_n 2, 1) := by decide +kernel
theorem dX11_lay_131 : decode cX11_lay 131 = .ok (.iconst 2, 1) := by decide +kernel
theorem dX11_lay_132 : decode cX11_lay 132 = .ok (.if_icmp .ne 55, 3) := by decide +kernel
theorem dX11_lay_135 : decode cX11_lay 135 = .ok (.aload_n 0, 1) := by decide +kernel
theorem dX11_lay_136 : decode cX11_lay 136 = .ok (.getfield 37, 3) := by decide +kernel
theorem dX11_lay_139 : decode cX11_lay 139 = .ok (.iload_n 1, 1) := by decide +kernel
theorem dX11_lay_140 : decode cX11_lay 140 = .ok (.aload_n 0, 1) := by decide +kernel
theorem dX11_lay_141 : decode cX11_lay 141 = .ok (.getfield 22, 3) := by decide +kernel
theorem dX11_lay_144 : decode cX11_lay 144 = .ok (.iload_n 3, 1) := by decide +kernel
theorem dX11_lay_145 : decode cX11_lay 145 = .ok (.iaload, 1) := by decide +kernel
theorem dX11_lay_146 : decode cX11_lay 146 = .ok (.iastore, 1) := by decide +kernel
theorem dX11_lay_147 : decode cX11_lay 147 = .ok (.iconst 0, 1) := by decide +kernel
theorem dX11_lay_148 : decode cX11_lay 148 = .ok (.istore 6, 2) := by decide +kernel
theorem dX11_lay_150 : decode cX11_lay 150 = .ok (.iload 6, 2) := by decide +kernel
theorem dX11_lay_152 : decode cX11_lay 152 = .ok (.bipush 24, 2) := by decide +kernel
theorem dX11_lay_154 : decode cX11_lay 154 = .ok (.if_icmp .ge 33, 3) := by decide +kernel
theorem dX11_lay_157 : decode cX11_lay 157 = .ok (.aload_n 0, 1) := by decide +kernel
theorem dX11_lay_158 : decode cX11_lay 158 = .ok (.getfield 40, 3) := by decide +kernel
theorem dX11_lay_161 : decode cX11_lay 161 = .ok (.bipush 24, 2) := by decide +kernel
theorem dX11_lay_163 : decode cX11_lay 163 = .ok (.iload_n 1, 1) := by decide +kernel
theorem dX11_lay_164 : decode cX11_lay 164 = .ok (.imul, 1) := by decide +kernel
theorem dX11_lay_165 : decode cX11_lay 165 = .ok (.iload 6, 2) := by decide +kernel
theorem dX11_lay_167 : decode cX11_lay 167 = .ok (.iadd, 1) := by decide +kernel
theorem dX11_lay_168 : decode cX11_lay 168 = .ok (.aload_n 0, 1) := by decide +kernel
theorem dX11_lay_169 : decode cX11_lay 169 = .ok (.getfield 25, 3) := by decide +kernel
theorem dX11_lay_172 : decode cX11_lay 172 = .ok (.bipush 24, 2) := by decide +kernel
theorem dX11_lay_174 : decode cX11_lay 174 = .ok (.iload_n 3, 1) := by decide +kernel
theorem dX11_lay_175 : decode cX11_lay 175 = .ok (.imul, 1) := by decide +kernel
theorem dX11_lay_176 : decode cX11_lay 176 = .ok (.iload 6, 2) := by decide +kernel
theorem dX11_lay_178 : decode cX11_lay 178 = .ok (.iadd, 1) := by decide +kernel
theorem dX11_lay_179 : decode cX11_lay 179 = .ok (.iaload, 1) := by decide +kernel
theorem dX11_lay_180 : decode cX11_lay 180 = .ok (.iastore, 1) := by decide +kernel
theorem dX11_lay_181 : decode cX11_lay 181 = .ok (.iinc 6 1, 3) := by decide +kernel
theorem dX11_lay_184 : decode cX11_lay 184 = .ok (.goto (-34), 3) := by decide +kernel
theorem dX11_lay_187 : decode cX11_lay 187 = .ok (.iload 5, 2) := by decide +kernel
theorem dX11_lay_189 : decode cX11_lay 189 = .ok (.ireturn, 1) := by decide +kernel
theorem dX11_ask_0 : decode cX11_ask 0 = .ok (.iload_n 1, 1) := by decide +kernel
theorem dX11_ask_1 : decode cX11_ask 1 = .ok (.invokestatic 329, 3) := by decide +kernel
theorem dX11_ask_4 : decode cX11_ask 4 = .ok (.ifCond .eq 15, 3) := by decide +kernel
theorem dX11_ask_7 : decode cX11_ask 7 = .ok (.iload_n 2, 1) := by decide +kernel
theorem dX11_ask_8 : decode cX11_ask 8 = .ok (.i2l, 1) := by decide +kernel
theorem dX11_ask_9 : decode cX11_ask 9 = .ok (.lconst 0, 1) := by decide +kernel
theorem dX11_ask_10 : decode cX11_ask 10 = .ok (.ldc2_w 76, 3) := by decide +kernel
theorem dX11_ask_13 : decode cX11_ask 13 = .ok (.invokestatic 71, 3) := by decide +kernel
theorem dX11_ask_16 : decode cX11_ask 16 = .ok (.ifCond .ne 6, 3) := by decide +kernel
theorem dX11_ask_19 : decode cX11_ask 19 = .ok (.ldc 87, 2) := by decide +kernel
theorem dX11_ask_21 : decode cX11_ask 21 = .ok (.ireturn, 1) := by decide +kernel
theorem dX11_ask_22 : decode cX11_ask 22 = .ok (.aload_n 0, 1) := by decide +kernel
theorem dX11_ask_23 : decode cX11_ask 23 = .ok (.getfield 28, 3) := by decide +kernel
theorem dX11_ask_26 : decode cX11_ask 26 = .ok (.iload_n 1, 1) := by decide +kernel
theorem dX11_ask_27 : decode cX11_ask 27 = .ok (.iaload, 1) := by decide +kernel
theorem dX11_ask_28 : decode cX11_ask 28 = .ok (.ifCond .ne 7, 3) := by decide +kernel
theorem dX11_ask_31 : decode cX11_ask 31 = .ok (.ldc_w 320, 3) := by decide +kernel
theorem dX11_ask_34 : decode cX11_ask 34 = .ok (.ireturn, 1) := by decide +kernel
theorem dX11_ask_35 : decode cX11_ask 35 = .ok (.aload_n 0, 1) := by decide +kernel
theorem dX11_ask_36 : decode cX11_ask 36 = .ok (.getfield 28, 3) := by decide +kernel
theorem dX11_ask_39 : decode cX11_ask 39 = .ok (.iload_n 1, 1) := by decide +kernel
theorem dX11_ask_40 : decode cX11_ask 40 = .ok (.iaload, 1) := by decide +kernel
theorem dX11_ask_41 : decode cX11_ask 41 = .ok (.iconst 1, 1) := by decide +kernel
theorem dX11_ask_42 : decode cX11_ask 42 = .ok (.if_icmp .ne 25, 3) := by decide +kernel
theorem dX11_ask_45 : decode cX11_ask 45 = .ok (.aload_n 0, 1) := by decide +kernel
theorem dX11_ask_46 : decode cX11_ask 46 = .ok (.getfield 31, 3) := by decide +kernel
theorem dX11_ask_49 : decode cX11_ask 49 = .ok (.iload_n 1, 1) := by decide +kernel
theorem dX11_ask_50 : decode cX11_ask 50 = .ok (.iaload, 1) := by decide +kernel
theorem dX11_ask_51 : decode cX11_ask 51 = .ok (.iload_n 2, 1) := by decide +kernel
theorem dX11_ask_52 : decode cX11_ask 52 = .ok (.invokestatic 126, 3) := by decide +kernel
theorem dX11_ask_55 : decode cX11_ask 55 = .ok (.ifCond .eq 12, 3) := by decide +kernel
theorem dX11_ask_58 : decode cX11_ask 58 = .ok (.aload_n 0, 1) := by decide +kernel
theorem dX11_ask_59 : decode cX11_ask 59 = .ok (.getfield 34, 3) := by decide +kernel
theorem dX11_ask_62 : decode cX11_ask 62 = .ok (.iload_n 1, 1) := by decide +kernel
theorem dX11_ask_63 : decode cX11_ask 63 = .ok (.iaload, 1) := by decide +kernel
theorem dX11_ask_64 : decode cX11_ask 64 = .ok (.goto 5, 3) := by decide +kernel
theorem dX11_ask_67 : decode cX11_ask 67 = .ok (.ldc 129, 2) := by decide +kernel
theorem dX11_ask_69 : decode cX11_ask 69 = .ok (.ireturn, 1) := by decide +kernel
theorem dX11_item_0 : decode cX11_item 0 = .ok (.iload_n 1, 1) := by decide +kernel
theorem dX11_item_1 : decode cX11_item 1 = .ok (.invokestatic 329, 3) := by decide +kernel
theorem dX11_item_4 : decode cX11_item 4 = .ok (.ifCond .ne 6, 3) := by decide +kernel
theorem dX11_item_7 : decode cX11_item 7 = .ok (.ldc 87, 2) := by decide +kernel
theorem dX11_item_9 : decode cX11_item 9 = .ok (.ireturn, 1) := by decide +kernel
theorem dX11_item_10 : decode cX11_item 10 = .ok (.aload_n 0, 1) := by decide +kernel
theorem dX11_item_11 : decode cX11_item 11 = .ok (.getfield 28, 3) := by decide +kernel
theorem dX11_item_14 : decode cX11_item 14 = .ok (.iload_n 1, 1) := by decide +kernel
theorem dX11_item_15 : decode cX11_item 15 = .ok (.iaload, 1) := by decide +kernel
theorem dX11_item_16 : decode cX11_item 16 = .ok (.iconst 2, 1) := by decide +kernel
theorem dX11_item_17 : decode cX11_item 17 = .ok (.if_icmp .eq 21, 3) := by decide +kernel
theorem dX11_item_20 : decode cX11_item 20 = .ok (.aload_n 0, 1) := by decide +kernel
theorem dX11_item_21 : decode cX11_item 21 = .ok (.getfield 28, 3) := by decide +kernel
theorem dX11_item_24 : decode cX11_item 24 = .ok (.iload_n 1, 1) := by decide +kernel
theorem dX11_item_25 : decode cX11_item 25 = .ok (.iaload, 1) := by decide +kernel
theorem dX11_item_26 : decode cX11_item 26 = .ok (.ifCond .ne 9, 3) := by decide +kernel
theorem dX11_item_29 : decode cX11_item 29 = .ok (.ldc_w 320, 3) := by decide +kernel
theorem dX11_item_32 : decode cX11_item 32 = .ok (.goto 5, 3) := by decide +kernel
theorem dX11_item_35 : decode cX11_item 35 = .ok (.ldc 129, 2) := by decide +kernel
theorem dX11_item_37 : decode cX11_item 37 = .ok (.ireturn, 1) := by decide +kernel
theorem dX11_item_38 : decode cX11_item 38 = .ok (.iload_n 2, 1) := by decide +kernel
theorem dX11_item_39 : decode cX11_item 39 = .ok (.i2l, 1) := by decide +kernel
theorem dX11_item_40 : decode cX11_item 40 = .ok (.lconst 0, 1) := by decide +kernel
theorem dX11_item_41 : decode cX11_item 41 = .ok (.aload_n 0, 1) := by decide +kernel
theorem dX11_item_42 : decode cX11_item 42 = .ok (.getfield 37, 3) := by decide +kernel
theorem dX11_item_45 : decode cX11_item 45 = .ok (.iload_n 1, 1) := by decide +kernel
theorem dX11_item_46 : decode cX11_item 46 = .ok (.iaload, 1) := by decide +kernel
theorem dX11_item_47 : decode cX11_item 47 = .ok (.iconst 1, 1) := by decide +kernel
theorem dX11_item_48 : decode cX11_item 48 = .ok (.isub, 1) := by decide +kernel
theorem dX11_item_49 : decode cX11_item 49 = .ok (.i2l, 1) := by decide +kernel
theorem dX11_item_50 : decode cX11_item 50 = .ok (.invokestatic 71, 3) := by decide +kernel
theorem dX11_item_53 : decode cX11_item 53 = .ok (.ifCond .ne 7, 3) := by decide +kernel
theorem dX11_item_56 : decode cX11_item 56 = .ok (.ldc_w 321, 3) := by decide +kernel
theorem dX11_item_59 : decode cX11_item 59 = .ok (.ireturn, 1) := by decide +kernel
theorem dX11_item_60 : decode cX11_item 60 = .ok (.aload_n 0, 1) := by decide +kernel
theorem dX11_item_61 : decode cX11_item 61 = .ok (.getfield 40, 3) := by decide +kernel
theorem dX11_item_64 : decode cX11_item 64 = .ok (.bipush 24, 2) := by decide +kernel
theorem dX11_item_66 : decode cX11_item 66 = .ok (.iload_n 1, 1) := by decide +kernel
theorem dX11_item_67 : decode cX11_item 67 = .ok (.imul, 1) := by decide +kernel
theorem dX11_item_68 : decode cX11_item 68 = .ok (.iload_n 2, 1) := by decide +kernel
theorem dX11_item_69 : decode cX11_item 69 = .ok (.iadd, 1) := by decide +kernel
theorem dX11_item_70 : decode cX11_item 70 = .ok (.iaload, 1) := by decide +kernel
theorem dX11_item_71 : decode cX11_item 71 = .ok (.istore_n 3, 1) := by decide +kernel
theorem dX11_item_72 : decode cX11_item 72 = .ok (.iload_n 3, 1) := by decide +kernel
theorem dX11_item_73 : decode cX11_item 73 = .ok (.ldc 70, 2) := by decide +kernel
theorem dX11_item_75 : decode cX11_item 75 = .ok (.if_icmp .ne 8, 3) := by decide +kernel
theorem dX11_item_78 : decode cX11_item 78 = .ok (.ldc 129, 2) := by decide +kernel
theorem dX11_item_80 : decode cX11_item 80 = .ok (.goto 4, 3) := by decide +kernel
theorem dX11_item_83 : decode cX11_item 83 = .ok (.iload_n 3, 1) := by decide +kernel
theorem dX11_item_84 : decode cX11_item 84 = .ok (.ireturn, 1) := by decide +kernel
theorem dX11_rest_0 : decode cX11_rest 0 = .ok (.iload_n 1, 1) := by decide +kernel
theorem dX11_rest_1 : decode cX11_rest 1 = .ok (.invokestatic 329, 3) := by decide +kernel
theorem dX11_rest_4 : decode cX11_rest 4 = .ok (.ifCond .ne 6, 3) := by decide +kernel
theorem dX11_rest_7 : decode cX11_rest 7 = .ok (.ldc 87, 2) := by decide +kernel
theorem dX11_rest_9 : decode cX11_rest 9 = .ok (.ireturn, 1) := by decide +kernel
theorem dX11_rest_10 : decode cX11_rest 10 = .ok (.aload_n 0, 1) := by decide +kernel
theorem dX11_rest_11 : decode cX11_rest 11 = .ok (.getfield 28, 3) := by decide +kernel
theorem dX11_rest_14 : decode cX11_rest 14 = .ok (.iload_n 1, 1) := by decide +kernel
theorem dX11_rest_15 : decode cX11_rest 15 = .ok (.iaload, 1) := by decide +kernel
theorem dX11_rest_16 : decode cX11_rest 16 = .ok (.iconst 3, 1) := by decide +kernel
theorem dX11_rest_17 : decode cX11_rest 17 = .ok (.if_icmp .eq 21, 3) := by decide +kernel
theorem dX11_rest_20 : decode cX11_rest 20 = .ok (.aload_n 0, 1) := by decide +kernel
theorem dX11_rest_21 : decode cX11_rest 21 = .ok (.getfield 28, 3) := by decide +kernel
theorem dX11_rest_24 : decode cX11_rest 24 = .ok (.iload_n 1, 1) := by decide +kernel
theorem dX11_rest_25 : decode cX11_rest 25 = .ok (.iaload, 1) := by decide +kernel
theorem dX11_rest_26 : decode cX11_rest 26 = .ok (.ifCond .ne 9, 3) := by decide +kernel
theorem dX11_rest_29 : decode cX11_rest 29 = .ok (.ldc_w 320, 3) := by decide +kernel
theorem dX11_rest_32 : decode cX11_rest 32 = .ok (.goto 5, 3) := by decide +kernel
theorem dX11_rest_35 : decode cX11_rest 35 = .ok (.ldc 129, 2) := by decide +kernel
theorem dX11_rest_37 : decode cX11_rest 37 = .ok (.ireturn, 1) := by decide +kernel
theorem dX11_rest_38 : decode cX11_rest 38 = .ok (.iload_n 2, 1) := by decide +kernel
theorem dX11_rest_39 : decode cX11_rest 39 = .ok (.ifCond .ne 8, 3) := by decide +kernel
theorem dX11_rest_42 : decode cX11_rest 42 = .ok (.ldc 153, 2) := by decide +kernel
theorem dX11_rest_44 : decode cX11_rest 44 = .ok (.goto 11, 3) := by decide +kernel
theorem dX11_rest_47 : decode cX11_rest 47 = .ok (.aload_n 0, 1) := by decide +kernel
theorem dX11_rest_48 : decode cX11_rest 48 = .ok (.getfield 31, 3) := by decide +kernel
theorem dX11_rest_51 : decode cX11_rest 51 = .ok (.iload_n 1, 1) := by decide +kernel
theorem dX11_rest_52 : decode cX11_rest 52 = .ok (.iaload, 1) := by decide +kernel
theorem dX11_rest_53 : decode cX11_rest 53 = .ok (.iload_n 2, 1) := by decide +kernel
theorem dX11_rest_54 : decode cX11_rest 54 = .ok (.irem, 1) := by decide +kernel
theorem dX11_rest_55 : decode cX11_rest 55 = .ok (.ireturn, 1) := by decide +kernel
theorem dX11_tell_0 : decode cX11_tell 0 = .ok (.aload_n 0, 1) := by decide +kernel
theorem dX11_tell_1 : decode cX11_tell 1 = .ok (.getfield 332, 3) := by decide +kernel
theorem dX11_tell_4 : decode cX11_tell 4 = .ok (.bipush 60, 2) := by decide +kernel
theorem dX11_tell_6 : decode cX11_tell 6 = .ok (.if_icmp .ne 6, 3) := by decide +kernel
theorem dX11_tell_9 : decode cX11_tell 9 = .ok (.ldc 88, 2) := by decide +kernel
theorem dX11_tell_11 : decode cX11_tell 11 = .ok (.ireturn, 1) := by decide +kernel
theorem dX11_tell_12 : decode cX11_tell 12 = .ok (.aload_n 0, 1) := by decide +kernel
theorem dX11_tell_13 : decode cX11_tell 13 = .ok (.getfield 64, 3) := by decide +kernel
theorem dX11_tell_16 : decode cX11_tell 16 = .ok (.aload_n 0, 1) := by decide +kernel
theorem dX11_tell_17 : decode cX11_tell 17 = .ok (.getfield 332, 3) := by decide +kernel
theorem dX11_tell_20 : decode cX11_tell 20 = .ok (.iload_n 1, 1) := by decide +kernel
theorem dX11_tell_21 : decode cX11_tell 21 = .ok (.iastore, 1) := by decide +kernel
theorem dX11_tell_22 : decode cX11_tell 22 = .ok (.aload_n 0, 1) := by decide +kernel
theorem dX11_tell_23 : decode cX11_tell 23 = .ok (.dup, 1) := by decide +kernel
theorem dX11_tell_24 : decode cX11_tell 24 = .ok (.getfield 332, 3) := by decide +kernel
theorem dX11_tell_27 : decode cX11_tell 27 = .ok (.iconst 1, 1) := by decide +kernel
theorem dX11_tell_28 : decode cX11_tell 28 = .ok (.iadd, 1) := by decide +kernel
theorem dX11_tell_29 : decode cX11_tell 29 = .ok (.putfield 332, 3) := by decide +kernel
theorem dX11_tell_32 : decode cX11_tell 32 = .ok (.aload_n 0, 1) := by decide +kernel
theorem dX11_tell_33 : decode cX11_tell 33 = .ok (.getfield 332, 3) := by decide +kernel
theorem dX11_tell_36 : decode cX11_tell 36 = .ok (.ireturn, 1) := by decide +kernel
theorem dX11_setAside_0 : decode cX11_setAside 0 = .ok (.iconst 0, 1) := by decide +kernel
theorem dX11_setAside_1 : decode cX11_setAside 1 = .ok (.istore_n 3, 1) := by decide +kernel
theorem dX11_setAside_2 : decode cX11_setAside 2 = .ok (.iload_n 3, 1) := by decide +kernel
theorem dX11_setAside_3 : decode cX11_setAside 3 = .ok (.sipush 2935, 3) := by decide +kernel
theorem dX11_setAside_6 : decode cX11_setAside 6 = .ok (.if_icmp .ge 15, 3) := by decide +kernel
theorem dX11_setAside_9 : decode cX11_setAside 9 = .ok (.aload_n 2, 1) := by decide +kernel
theorem dX11_setAside_10 : decode cX11_setAside 10 = .ok (.iload_n 3, 1) := by decide +kernel
theorem dX11_setAside_11 : decode cX11_setAside 11 = .ok (.aload_n 1, 1) := by decide +kernel
theorem dX11_setAside_12 : decode cX11_setAside 12 = .ok (.iload_n 3, 1) := by decide +kernel
theorem dX11_setAside_13 : decode cX11_setAside 13 = .ok (.iaload, 1) := by decide +kernel
theorem dX11_setAside_14 : decode cX11_setAside 14 = .ok (.iastore, 1) := by decide +kernel
theorem dX11_setAside_15 : decode cX11_setAside 15 = .ok (.iinc 3 1, 3) := by decide +kernel
theorem dX11_setAside_18 : decode cX11_setAside 18 = .ok (.goto (-16), 3) := by decide +kernel
theorem dX11_setAside_21 : decode cX11_setAside 21 = .ok (.return_, 1) := by decide +kernel
theorem dX11_allOf_0 : decode cX11_allOf 0 = .ok (.iconst 0, 1) := by decide +kernel
theorem dX11_allOf_1 : decode cX11_allOf 1 = .ok (.istore_n 2, 1) := by decide +kernel
theorem dX11_allOf_2 : decode cX11_allOf 2 = .ok (.iconst 0, 1) := by decide +kernel
theorem dX11_allOf_3 : decode cX11_allOf 3 = .ok (.istore_n 3, 1) := by decide +kernel
theorem dX11_allOf_4 : decode cX11_allOf 4 = .ok (.iload_n 3, 1) := by decide +kernel
theorem dX11_allOf_5 : decode cX11_allOf 5 = .ok (.aload_n 0, 1) := by decide +kernel
theorem dX11_allOf_6 : decode cX11_allOf 6 = .ok (.getfield 7, 3) := by decide +kernel
theorem dX11_allOf_9 : decode cX11_allOf 9 = .ok (.iconst 0, 1) := by decide +kernel
theorem dX11_allOf_10 : decode cX11_allOf 10 = .ok (.iaload, 1) := by decide +kernel
theorem dX11_allOf_11 : decode cX11_allOf 11 = .ok (.if_icmp .ge 18, 3) := by decide +kernel
theorem dX11_allOf_14 : decode cX11_allOf 14 = .ok (.iload_n 2, 1) := by decide +kernel
theorem dX11_allOf_15 : decode cX11_allOf 15 = .ok (.aload_n 0, 1) := by decide +kernel
theorem dX11_allOf_16 : decode cX11_allOf 16 = .ok (.iload_n 3, 1) := by decide +kernel
theorem dX11_allOf_17 : decode cX11_allOf 17 = .ok (.iload_n 1, 1) := by decide +kernel
theorem dX11_allOf_18 : decode cX11_allOf 18 = .ok (.invokevirtual 97, 3) := by decide +kernel
theorem dX11_allOf_21 : decode cX11_allOf 21 = .ok (.iadd, 1) := by decide +kernel
theorem dX11_allOf_22 : decode cX11_allOf 22 = .ok (.istore_n 2, 1) := by decide +kernel
theorem dX11_allOf_23 : decode cX11_allOf 23 = .ok (.iinc 3 1, 3) := by decide +kernel
theorem dX11_allOf_26 : decode cX11_allOf 26 = .ok (.goto (-22), 3) := by decide +kernel
theorem dX11_allOf_29 : decode cX11_allOf 29 = .ok (.iload_n 2, 1) := by decide +kernel
theorem dX11_allOf_30 : decode cX11_allOf 30 = .ok (.ireturn, 1) := by decide +kernel
theorem dX11_check_0 : decode cX11_check 0 = .ok (.aload_n 0, 1) := by decide +kernel
theorem dX11_check_1 : decode cX11_check 1 = .ok (.getfield 332, 3) := by decide +kernel
theorem dX11_check_4 : decode cX11_check 4 = .ok (.istore_n 2, 1) := by decide +kernel
theorem dX11_check_5 : decode cX11_check 5 = .ok (.aload_n 0, 1) := by decide +kernel
theorem dX11_check_6 : decode cX11_check 6 = .ok (.iconst 0, 1) := by decide +kernel
theorem dX11_check_7 : decode cX11_check 7 = .ok (.putfield 332, 3) := by decide +kernel
theorem dX11_check_10 : decode cX11_check 10 = .ok (.iload_n 1, 1) := by decide +kernel
theorem dX11_check_11 : decode cX11_check 11 = .ok (.i2l, 1) := by decide +kernel
theorem dX11_check_12 : decode cX11_check 12 = .ok (.lconst 1, 1) := by decide +kernel
theorem dX11_check_13 : decode cX11_check 13 = .ok (.ldc2_w 335, 3) := by decide +kernel
theorem dX11_check_16 : decode cX11_check 16 = .ok (.invokestatic 71, 3) := by decide +kernel
theorem dX11_check_19 : decode cX11_check 19 = .ok (.ifCond .ne 6, 3) := by decide +kernel
theorem dX11_check_22 : decode cX11_check 22 = .ok (.ldc 87, 2) := by decide +kernel
theorem dX11_check_24 : decode cX11_check 24 = .ok (.ireturn, 1) := by decide +kernel
theorem dX11_check_25 : decode cX11_check 25 = .ok (.aload_n 0, 1) := by decide +kernel
theorem dX11_check_26 : decode cX11_check 26 = .ok (.getfield 337, 3) := by decide +kernel
theorem dX11_check_29 : decode cX11_check 29 = .ok (.ifCond .ne 6, 3) := by decide +kernel
theorem dX11_check_32 : decode cX11_check 32 = .ok (.ldc 153, 2) := by decide +kernel
theorem dX11_check_34 : decode cX11_check 34 = .ok (.ireturn, 1) := by decide +kernel
theorem dX11_check_35 : decode cX11_check 35 = .ok (.aload_n 0, 1) := by decide +kernel
theorem dX11_check_36 : decode cX11_check 36 = .ok (.aload_n 0, 1) := by decide +kernel
theorem dX11_check_37 : decode cX11_check 37 = .ok (.getfield 7, 3) := by decide +kernel
theorem dX11_check_40 : decode cX11_check 40 = .ok (.aload_n 0, 1) := by decide +kernel
theorem dX11_check_41 : decode cX11_check 41 = .ok (.getfield 16, 3) := by decide +kernel
theorem dX11_check_44 : decode cX11_check 44 = .ok (.invokevirtual 341, 3) := by decide +kernel
theorem dX11_check_47 : decode cX11_check 47 = .ok (.aload_n 0, 1) := by decide +kernel
theorem dX11_check_48 : decode cX11_check 48 = .ok (.aload_n 0, 1) := by decide +kernel
theorem dX11_check_49 : decode cX11_check 49 = .ok (.getfield 13, 3) := by decide +kernel
theorem dX11_check_52 : decode cX11_check 52 = .ok (.aload_n 0, 1) := by decide +kernel
theorem dX11_check_53 : decode cX11_check 53 = .ok (.getfield 7, 3) := by decide +kernel
theorem dX11_check_56 : decode cX11_check 56 = .ok (.invokevirtual 341, 3) := by decide +kernel
theorem dX11_check_59 : decode cX11_check 59 = .ok (.iconst 0, 1) := by decide +kernel
theorem dX11_check_60 : decode cX11_check 60 = .ok (.istore_n 3, 1) := by decide +kernel
theorem dX11_check_61 : decode cX11_check 61 = .ok (.iconst 0, 1) := by decide +kernel
theorem dX11_check_62 : decode cX11_check 62 = .ok (.istore 4, 2) := by decide +kernel
theorem dX11_check_64 : decode cX11_check 64 = .ok (.iload 4, 2) := by decide +kernel
theorem dX11_check_66 : decode cX11_check 66 = .ok (.iload_n 1, 1) := by decide +kernel
theorem dX11_check_67 : decode cX11_check 67 = .ok (.if_icmp .ge 43, 3) := by decide +kernel
theorem dX11_check_70 : decode cX11_check 70 = .ok (.aload_n 0, 1) := by decide +kernel
theorem dX11_check_71 : decode cX11_check 71 = .ok (.invokevirtual 208, 3) := by decide +kernel
theorem dX11_check_74 : decode cX11_check 74 = .ok (.istore 5, 2) := by decide +kernel
theorem dX11_check_76 : decode cX11_check 76 = .ok (.aload_n 0, 1) := by decide +kernel
theorem dX11_check_77 : decode cX11_check 77 = .ok (.getfield 67, 3) := by decide +kernel
theorem dX11_check_80 : decode cX11_check 80 = .ok (.iload_n 3, 1) := by decide +kernel
theorem dX11_check_81 : decode cX11_check 81 = .ok (.aload_n 0, 1) := by decide +kernel
theorem dX11_check_82 : decode cX11_check 82 = .ok (.bipush 6, 2) := by decide +kernel
theorem dX11_check_84 : decode cX11_check 84 = .ok (.invokevirtual 345, 3) := by decide +kernel
theorem dX11_check_87 : decode cX11_check 87 = .ok (.iastore, 1) := by decide +kernel
theorem dX11_check_88 : decode cX11_check 88 = .ok (.aload_n 0, 1) := by decide +kernel
theorem dX11_check_89 : decode cX11_check 89 = .ok (.getfield 67, 3) := by decide +kernel
theorem dX11_check_92 : decode cX11_check 92 = .ok (.iload_n 3, 1) := by decide +kernel
theorem dX11_check_93 : decode cX11_check 93 = .ok (.iconst 1, 1) := by decide +kernel
theorem dX11_check_94 : decode cX11_check 94 = .ok (.iadd, 1) := by decide +kernel
theorem dX11_check_95 : decode cX11_check 95 = .ok (.aload_n 0, 1) := by decide +kernel
theorem dX11_check_96 : decode cX11_check 96 = .ok (.iconst 5, 1) := by decide +kernel
theorem dX11_check_97 : decode cX11_check 97 = .ok (.invokevirtual 345, 3) := by decide +kernel
theorem dX11_check_100 : decode cX11_check 100 = .ok (.iastore, 1) := by decide +kernel
theorem dX11_check_101 : decode cX11_check 101 = .ok (.iinc 3 2, 3) := by decide +kernel
theorem dX11_check_104 : decode cX11_check 104 = .ok (.iinc 4 1, 3) := by decide +kernel
theorem dX11_check_107 : decode cX11_check 107 = .ok (.goto (-43), 3) := by decide +kernel
theorem dX11_check_110 : decode cX11_check 110 = .ok (.aload_n 0, 1) := by decide +kernel
theorem dX11_check_111 : decode cX11_check 111 = .ok (.aload_n 0, 1) := by decide +kernel
theorem dX11_check_112 : decode cX11_check 112 = .ok (.getfield 16, 3) := by decide +kernel
theorem dX11_check_115 : decode cX11_check 115 = .ok (.aload_n 0, 1) := by decide +kernel
theorem dX11_check_116 : decode cX11_check 116 = .ok (.getfield 7, 3) := by decide +kernel
theorem dX11_check_119 : decode cX11_check 119 = .ok (.invokevirtual 341, 3) := by decide +kernel
theorem dX11_check_122 : decode cX11_check 122 = .ok (.iconst 0, 1) := by decide +kernel
theorem dX11_check_123 : decode cX11_check 123 = .ok (.istore 4, 2) := by decide +kernel
theorem dX11_check_125 : decode cX11_check 125 = .ok (.iload 4, 2) := by decide +kernel
theorem dX11_check_127 : decode cX11_check 127 = .ok (.iload_n 2, 1) := by decide +kernel
theorem dX11_check_128 : decode cX11_check 128 = .ok (.if_icmp .ge 32, 3) := by decide +kernel
theorem dX11_check_131 : decode cX11_check 131 = .ok (.iload 4, 2) := by decide +kernel
theorem dX11_check_133 : decode cX11_check 133 = .ok (.iload_n 3, 1) := by decide +kernel
theorem dX11_check_134 : decode cX11_check 134 = .ok (.if_icmp .ge 26, 3) := by decide +kernel
theorem dX11_check_137 : decode cX11_check 137 = .ok (.aload_n 0, 1) := by decide +kernel
theorem dX11_check_138 : decode cX11_check 138 = .ok (.getfield 64, 3) := by decide +kernel
theorem dX11_check_141 : decode cX11_check 141 = .ok (.iload 4, 2) := by decide +kernel
theorem dX11_check_143 : decode cX11_check 143 = .ok (.iaload, 1) := by decide +kernel
theorem dX11_check_144 : decode cX11_check 144 = .ok (.aload_n 0, 1) := by decide +kernel
theorem dX11_check_145 : decode cX11_check 145 = .ok (.getfield 67, 3) := by decide +kernel
theorem dX11_check_148 : decode cX11_check 148 = .ok (.iload 4, 2) := by decide +kernel
theorem dX11_check_150 : decode cX11_check 150 = .ok (.iaload, 1) := by decide +kernel
theorem dX11_check_151 : decode cX11_check 151 = .ok (.if_icmp .ne 9, 3) := by decide +kernel
theorem dX11_check_154 : decode cX11_check 154 = .ok (.iinc 4 1, 3) := by decide +kernel
theorem dX11_check_157 : decode cX11_check 157 = .ok (.goto (-32), 3) := by decide +kernel
theorem dX11_check_160 : decode cX11_check 160 = .ok (.iload 4, 2) := by decide +kernel
theorem dX11_check_162 : decode cX11_check 162 = .ok (.iload_n 2, 1) := by decide +kernel
theorem dX11_check_163 : decode cX11_check 163 = .ok (.if_icmp .ne 13, 3) := by decide +kernel
theorem dX11_check_166 : decode cX11_check 166 = .ok (.iload 4, 2) := by decide +kernel
theorem dX11_check_168 : decode cX11_check 168 = .ok (.iload_n 3, 1) := by decide +kernel
theorem dX11_check_169 : decode cX11_check 169 = .ok (.if_icmp .ne 7, 3) := by decide +kernel
theorem dX11_check_172 : decode cX11_check 172 = .ok (.iconst 0, 1) := by decide +kernel
theorem dX11_check_173 : decode cX11_check 173 = .ok (.goto 7, 3) := by decide +kernel
theorem dX11_check_176 : decode cX11_check 176 = .ok (.iconst 1, 1) := by decide +kernel
theorem dX11_check_177 : decode cX11_check 177 = .ok (.iload 4, 2) := by decide +kernel
theorem dX11_check_179 : decode cX11_check 179 = .ok (.iadd, 1) := by decide +kernel
theorem dX11_check_180 : decode cX11_check 180 = .ok (.ireturn, 1) := by decide +kernel
theorem dX11_keep_0 : decode cX11_keep 0 = .ok (.aload_n 0, 1) := by decide +kernel
theorem dX11_keep_1 : decode cX11_keep 1 = .ok (.iconst 1, 1) := by decide +kernel
theorem dX11_keep_2 : decode cX11_keep 2 = .ok (.putfield 337, 3) := by decide +kernel
theorem dX11_keep_5 : decode cX11_keep 5 = .ok (.aload_n 0, 1) := by decide +kernel
theorem dX11_keep_6 : decode cX11_keep 6 = .ok (.aload_n 0, 1) := by decide +kernel
theorem dX11_keep_7 : decode cX11_keep 7 = .ok (.getfield 7, 3) := by decide +kernel
theorem dX11_keep_10 : decode cX11_keep 10 = .ok (.aload_n 0, 1) := by decide +kernel
theorem dX11_keep_11 : decode cX11_keep 11 = .ok (.getfield 13, 3) := by decide +kernel
theorem dX11_keep_14 : decode cX11_keep 14 = .ok (.invokevirtual 341, 3) := by decide +kernel
theorem dX11_keep_17 : decode cX11_keep 17 = .ok (.aload_n 0, 1) := by decide +kernel
theorem dX11_keep_18 : decode cX11_keep 18 = .ok (.getfield 7, 3) := by decide +kernel
theorem dX11_keep_21 : decode cX11_keep 21 = .ok (.iconst 0, 1) := by decide +kernel
theorem dX11_keep_22 : decode cX11_keep 22 = .ok (.iaload, 1) := by decide +kernel

