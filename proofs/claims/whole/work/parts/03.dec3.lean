theorem dX12_cutAll_249 : decode cX12_cutAll 249 = .ok (.iload_n 3, 1) := by decide +kernel
theorem dX12_cutAll_250 : decode cX12_cutAll 250 = .ok (.invokestatic 173, 3) := by decide +kernel
theorem dX12_cutAll_253 : decode cX12_cutAll 253 = .ok (.ifCond .eq 7, 3) := by decide +kernel
theorem dX12_cutAll_256 : decode cX12_cutAll 256 = .ok (.iconst 3, 1) := by decide +kernel
theorem dX12_cutAll_257 : decode cX12_cutAll 257 = .ok (.goto 4, 3) := by decide +kernel
theorem dX12_cutAll_260 : decode cX12_cutAll 260 = .ok (.iconst 4, 1) := by decide +kernel
theorem dX12_cutAll_261 : decode cX12_cutAll 261 = .ok (.iastore, 1) := by decide +kernel
theorem dX12_cutAll_262 : decode cX12_cutAll 262 = .ok (.iinc 2 1, 3) := by decide +kernel
theorem dX12_cutAll_265 : decode cX12_cutAll 265 = .ok (.aload_n 0, 1) := by decide +kernel
theorem dX12_cutAll_266 : decode cX12_cutAll 266 = .ok (.getfield 30, 3) := by decide +kernel
theorem dX12_cutAll_269 : decode cX12_cutAll 269 = .ok (.iload_n 1, 1) := by decide +kernel
theorem dX12_cutAll_270 : decode cX12_cutAll 270 = .ok (.lload 5, 2) := by decide +kernel
theorem dX12_cutAll_272 : decode cX12_cutAll 272 = .ok (.lastore, 1) := by decide +kernel
theorem dX12_cutAll_273 : decode cX12_cutAll 273 = .ok (.iinc 1 1, 3) := by decide +kernel
theorem dX12_cutAll_276 : decode cX12_cutAll 276 = .ok (.goto (-259), 3) := by decide +kernel
theorem dX12_cutAll_279 : decode cX12_cutAll 279 = .ok (.aload_n 0, 1) := by decide +kernel
theorem dX12_cutAll_280 : decode cX12_cutAll 280 = .ok (.getfield 24, 3) := by decide +kernel
theorem dX12_cutAll_283 : decode cX12_cutAll 283 = .ok (.iload_n 1, 1) := by decide +kernel
theorem dX12_cutAll_284 : decode cX12_cutAll 284 = .ok (.iconst 0, 1) := by decide +kernel
theorem dX12_cutAll_285 : decode cX12_cutAll 285 = .ok (.iastore, 1) := by decide +kernel
theorem dX12_cutAll_286 : decode cX12_cutAll 286 = .ok (.aload_n 0, 1) := by decide +kernel
theorem dX12_cutAll_287 : decode cX12_cutAll 287 = .ok (.getfield 27, 3) := by decide +kernel
theorem dX12_cutAll_290 : decode cX12_cutAll 290 = .ok (.iload_n 1, 1) := by decide +kernel
theorem dX12_cutAll_291 : decode cX12_cutAll 291 = .ok (.aload_n 0, 1) := by decide +kernel
theorem dX12_cutAll_292 : decode cX12_cutAll 292 = .ok (.getfield 157, 3) := by decide +kernel
theorem dX12_cutAll_295 : decode cX12_cutAll 295 = .ok (.iastore, 1) := by decide +kernel
theorem dX12_cutAll_296 : decode cX12_cutAll 296 = .ok (.aload_n 0, 1) := by decide +kernel
theorem dX12_cutAll_297 : decode cX12_cutAll 297 = .ok (.iconst 0, 1) := by decide +kernel
theorem dX12_cutAll_298 : decode cX12_cutAll 298 = .ok (.putfield 176, 3) := by decide +kernel
theorem dX12_cutAll_301 : decode cX12_cutAll 301 = .ok (.aload_n 0, 1) := by decide +kernel
theorem dX12_cutAll_302 : decode cX12_cutAll 302 = .ok (.iconst 0, 1) := by decide +kernel
theorem dX12_cutAll_303 : decode cX12_cutAll 303 = .ok (.putfield 179, 3) := by decide +kernel
theorem dX12_cutAll_306 : decode cX12_cutAll 306 = .ok (.return_, 1) := by decide +kernel
theorem dX12_wrong_0 : decode cX12_wrong 0 = .ok (.aload_n 0, 1) := by decide +kernel
theorem dX12_wrong_1 : decode cX12_wrong 1 = .ok (.getfield 179, 3) := by decide +kernel
theorem dX12_wrong_4 : decode cX12_wrong 4 = .ok (.ifCond .ne 21, 3) := by decide +kernel
theorem dX12_wrong_7 : decode cX12_wrong 7 = .ok (.aload_n 0, 1) := by decide +kernel
theorem dX12_wrong_8 : decode cX12_wrong 8 = .ok (.iload_n 1, 1) := by decide +kernel
theorem dX12_wrong_9 : decode cX12_wrong 9 = .ok (.bipush 16, 2) := by decide +kernel
theorem dX12_wrong_11 : decode cX12_wrong 11 = .ok (.aload_n 0, 1) := by decide +kernel
theorem dX12_wrong_12 : decode cX12_wrong 12 = .ok (.getfield 27, 3) := by decide +kernel
theorem dX12_wrong_15 : decode cX12_wrong 15 = .ok (.aload_n 0, 1) := by decide +kernel
theorem dX12_wrong_16 : decode cX12_wrong 16 = .ok (.getfield 176, 3) := by decide +kernel
theorem dX12_wrong_19 : decode cX12_wrong 19 = .ok (.iaload, 1) := by decide +kernel
theorem dX12_wrong_20 : decode cX12_wrong 20 = .ok (.imul, 1) := by decide +kernel
theorem dX12_wrong_21 : decode cX12_wrong 21 = .ok (.iadd, 1) := by decide +kernel
theorem dX12_wrong_22 : decode cX12_wrong 22 = .ok (.putfield 179, 3) := by decide +kernel
theorem dX12_wrong_25 : decode cX12_wrong 25 = .ok (.return_, 1) := by decide +kernel
theorem dX12_isSign_0 : decode cX12_isSign 0 = .ok (.aload_n 0, 1) := by decide +kernel
theorem dX12_isSign_1 : decode cX12_isSign 1 = .ok (.getfield 179, 3) := by decide +kernel
theorem dX12_isSign_4 : decode cX12_isSign 4 = .ok (.ifCond .ne 35, 3) := by decide +kernel
theorem dX12_isSign_7 : decode cX12_isSign 7 = .ok (.aload_n 0, 1) := by decide +kernel
theorem dX12_isSign_8 : decode cX12_isSign 8 = .ok (.getfield 24, 3) := by decide +kernel
theorem dX12_isSign_11 : decode cX12_isSign 11 = .ok (.aload_n 0, 1) := by decide +kernel
theorem dX12_isSign_12 : decode cX12_isSign 12 = .ok (.getfield 176, 3) := by decide +kernel
theorem dX12_isSign_15 : decode cX12_isSign 15 = .ok (.iaload, 1) := by decide +kernel
theorem dX12_isSign_16 : decode cX12_isSign 16 = .ok (.iconst 3, 1) := by decide +kernel
theorem dX12_isSign_17 : decode cX12_isSign 17 = .ok (.if_icmp .ne 22, 3) := by decide +kernel
theorem dX12_isSign_20 : decode cX12_isSign 20 = .ok (.aload_n 0, 1) := by decide +kernel
theorem dX12_isSign_21 : decode cX12_isSign 21 = .ok (.getfield 30, 3) := by decide +kernel
theorem dX12_isSign_24 : decode cX12_isSign 24 = .ok (.aload_n 0, 1) := by decide +kernel
theorem dX12_isSign_25 : decode cX12_isSign 25 = .ok (.getfield 176, 3) := by decide +kernel
theorem dX12_isSign_28 : decode cX12_isSign 28 = .ok (.laload, 1) := by decide +kernel
theorem dX12_isSign_29 : decode cX12_isSign 29 = .ok (.iload_n 1, 1) := by decide +kernel
theorem dX12_isSign_30 : decode cX12_isSign 30 = .ok (.i2l, 1) := by decide +kernel
theorem dX12_isSign_31 : decode cX12_isSign 31 = .ok (.lcmp, 1) := by decide +kernel
theorem dX12_isSign_32 : decode cX12_isSign 32 = .ok (.ifCond .ne 7, 3) := by decide +kernel
theorem dX12_isSign_35 : decode cX12_isSign 35 = .ok (.iconst 1, 1) := by decide +kernel
theorem dX12_isSign_36 : decode cX12_isSign 36 = .ok (.goto 4, 3) := by decide +kernel
theorem dX12_isSign_39 : decode cX12_isSign 39 = .ok (.iconst 0, 1) := by decide +kernel
theorem dX12_isSign_40 : decode cX12_isSign 40 = .ok (.ireturn, 1) := by decide +kernel
theorem dX12_isWord_0 : decode cX12_isWord 0 = .ok (.aload_n 0, 1) := by decide +kernel
theorem dX12_isWord_1 : decode cX12_isWord 1 = .ok (.getfield 179, 3) := by decide +kernel
theorem dX12_isWord_4 : decode cX12_isWord 4 = .ok (.ifCond .ne 39, 3) := by decide +kernel
theorem dX12_isWord_7 : decode cX12_isWord 7 = .ok (.aload_n 0, 1) := by decide +kernel
theorem dX12_isWord_8 : decode cX12_isWord 8 = .ok (.getfield 24, 3) := by decide +kernel
theorem dX12_isWord_11 : decode cX12_isWord 11 = .ok (.aload_n 0, 1) := by decide +kernel
theorem dX12_isWord_12 : decode cX12_isWord 12 = .ok (.getfield 176, 3) := by decide +kernel
theorem dX12_isWord_15 : decode cX12_isWord 15 = .ok (.iaload, 1) := by decide +kernel
theorem dX12_isWord_16 : decode cX12_isWord 16 = .ok (.iconst 1, 1) := by decide +kernel
theorem dX12_isWord_17 : decode cX12_isWord 17 = .ok (.if_icmp .ne 26, 3) := by decide +kernel
theorem dX12_isWord_20 : decode cX12_isWord 20 = .ok (.aload_n 0, 1) := by decide +kernel
theorem dX12_isWord_21 : decode cX12_isWord 21 = .ok (.getfield 30, 3) := by decide +kernel
theorem dX12_isWord_24 : decode cX12_isWord 24 = .ok (.aload_n 0, 1) := by decide +kernel
theorem dX12_isWord_25 : decode cX12_isWord 25 = .ok (.getfield 176, 3) := by decide +kernel
theorem dX12_isWord_28 : decode cX12_isWord 28 = .ok (.laload, 1) := by decide +kernel
theorem dX12_isWord_29 : decode cX12_isWord 29 = .ok (.aload_n 0, 1) := by decide +kernel
theorem dX12_isWord_30 : decode cX12_isWord 30 = .ok (.getfield 82, 3) := by decide +kernel
theorem dX12_isWord_33 : decode cX12_isWord 33 = .ok (.iload_n 1, 1) := by decide +kernel
theorem dX12_isWord_34 : decode cX12_isWord 34 = .ok (.laload, 1) := by decide +kernel
theorem dX12_isWord_35 : decode cX12_isWord 35 = .ok (.lcmp, 1) := by decide +kernel
theorem dX12_isWord_36 : decode cX12_isWord 36 = .ok (.ifCond .ne 7, 3) := by decide +kernel
theorem dX12_isWord_39 : decode cX12_isWord 39 = .ok (.iconst 1, 1) := by decide +kernel
theorem dX12_isWord_40 : decode cX12_isWord 40 = .ok (.goto 4, 3) := by decide +kernel
theorem dX12_isWord_43 : decode cX12_isWord 43 = .ok (.iconst 0, 1) := by decide +kernel
theorem dX12_isWord_44 : decode cX12_isWord 44 = .ok (.ireturn, 1) := by decide +kernel
theorem dX12_takeSign_0 : decode cX12_takeSign 0 = .ok (.aload_n 0, 1) := by decide +kernel
theorem dX12_takeSign_1 : decode cX12_takeSign 1 = .ok (.iload_n 1, 1) := by decide +kernel
theorem dX12_takeSign_2 : decode cX12_takeSign 2 = .ok (.invokevirtual 182, 3) := by decide +kernel
theorem dX12_takeSign_5 : decode cX12_takeSign 5 = .ok (.ifCond .eq 16, 3) := by decide +kernel
theorem dX12_takeSign_8 : decode cX12_takeSign 8 = .ok (.aload_n 0, 1) := by decide +kernel
theorem dX12_takeSign_9 : decode cX12_takeSign 9 = .ok (.dup, 1) := by decide +kernel
theorem dX12_takeSign_10 : decode cX12_takeSign 10 = .ok (.getfield 176, 3) := by decide +kernel
theorem dX12_takeSign_13 : decode cX12_takeSign 13 = .ok (.iconst 1, 1) := by decide +kernel
theorem dX12_takeSign_14 : decode cX12_takeSign 14 = .ok (.iadd, 1) := by decide +kernel
theorem dX12_takeSign_15 : decode cX12_takeSign 15 = .ok (.putfield 176, 3) := by decide +kernel
theorem dX12_takeSign_18 : decode cX12_takeSign 18 = .ok (.goto 8, 3) := by decide +kernel
theorem dX12_takeSign_21 : decode cX12_takeSign 21 = .ok (.aload_n 0, 1) := by decide +kernel
theorem dX12_takeSign_22 : decode cX12_takeSign 22 = .ok (.iconst 1, 1) := by decide +kernel
theorem dX12_takeSign_23 : decode cX12_takeSign 23 = .ok (.invokevirtual 185, 3) := by decide +kernel
theorem dX12_takeSign_26 : decode cX12_takeSign 26 = .ok (.return_, 1) := by decide +kernel
theorem dX12_hasSign_0 : decode cX12_hasSign 0 = .ok (.aload_n 0, 1) := by decide +kernel
theorem dX12_hasSign_1 : decode cX12_hasSign 1 = .ok (.iload_n 1, 1) := by decide +kernel
theorem dX12_hasSign_2 : decode cX12_hasSign 2 = .ok (.invokevirtual 182, 3) := by decide +kernel
theorem dX12_hasSign_5 : decode cX12_hasSign 5 = .ok (.istore_n 2, 1) := by decide +kernel
theorem dX12_hasSign_6 : decode cX12_hasSign 6 = .ok (.aload_n 0, 1) := by decide +kernel
theorem dX12_hasSign_7 : decode cX12_hasSign 7 = .ok (.dup, 1) := by decide +kernel
theorem dX12_hasSign_8 : decode cX12_hasSign 8 = .ok (.getfield 176, 3) := by decide +kernel
theorem dX12_hasSign_11 : decode cX12_hasSign 11 = .ok (.iload_n 2, 1) := by decide +kernel
theorem dX12_hasSign_12 : decode cX12_hasSign 12 = .ok (.ifCond .eq 7, 3) := by decide +kernel
theorem dX12_hasSign_15 : decode cX12_hasSign 15 = .ok (.iconst 1, 1) := by decide +kernel
theorem dX12_hasSign_16 : decode cX12_hasSign 16 = .ok (.goto 4, 3) := by decide +kernel
theorem dX12_hasSign_19 : decode cX12_hasSign 19 = .ok (.iconst 0, 1) := by decide +kernel
theorem dX12_hasSign_20 : decode cX12_hasSign 20 = .ok (.iadd, 1) := by decide +kernel
theorem dX12_hasSign_21 : decode cX12_hasSign 21 = .ok (.putfield 176, 3) := by decide +kernel
theorem dX12_hasSign_24 : decode cX12_hasSign 24 = .ok (.iload_n 2, 1) := by decide +kernel
theorem dX12_hasSign_25 : decode cX12_hasSign 25 = .ok (.ireturn, 1) := by decide +kernel
theorem dX12_hasWord_0 : decode cX12_hasWord 0 = .ok (.aload_n 0, 1) := by decide +kernel
theorem dX12_hasWord_1 : decode cX12_hasWord 1 = .ok (.iload_n 1, 1) := by decide +kernel
theorem dX12_hasWord_2 : decode cX12_hasWord 2 = .ok (.invokevirtual 188, 3) := by decide +kernel
theorem dX12_hasWord_5 : decode cX12_hasWord 5 = .ok (.istore_n 2, 1) := by decide +kernel
theorem dX12_hasWord_6 : decode cX12_hasWord 6 = .ok (.aload_n 0, 1) := by decide +kernel
theorem dX12_hasWord_7 : decode cX12_hasWord 7 = .ok (.dup, 1) := by decide +kernel
theorem dX12_hasWord_8 : decode cX12_hasWord 8 = .ok (.getfield 176, 3) := by decide +kernel
theorem dX12_hasWord_11 : decode cX12_hasWord 11 = .ok (.iload_n 2, 1) := by decide +kernel
theorem dX12_hasWord_12 : decode cX12_hasWord 12 = .ok (.ifCond .eq 7, 3) := by decide +kernel
theorem dX12_hasWord_15 : decode cX12_hasWord 15 = .ok (.iconst 1, 1) := by decide +kernel
theorem dX12_hasWord_16 : decode cX12_hasWord 16 = .ok (.goto 4, 3) := by decide +kernel
theorem dX12_hasWord_19 : decode cX12_hasWord 19 = .ok (.iconst 0, 1) := by decide +kernel
theorem dX12_hasWord_20 : decode cX12_hasWord 20 = .ok (.iadd, 1) := by decide +kernel
theorem dX12_hasWord_21 : decode cX12_hasWord 21 = .ok (.putfield 176, 3) := by decide +kernel
theorem dX12_hasWord_24 : decode cX12_hasWord 24 = .ok (.iload_n 2, 1) := by decide +kernel
theorem dX12_hasWord_25 : decode cX12_hasWord 25 = .ok (.ireturn, 1) := by decide +kernel
theorem dX12_takeWord_0 : decode cX12_takeWord 0 = .ok (.aload_n 0, 1) := by decide +kernel
theorem dX12_takeWord_1 : decode cX12_takeWord 1 = .ok (.iload_n 1, 1) := by decide +kernel
theorem dX12_takeWord_2 : decode cX12_takeWord 2 = .ok (.invokevirtual 191, 3) := by decide +kernel
theorem dX12_takeWord_5 : decode cX12_takeWord 5 = .ok (.ifCond .ne 8, 3) := by decide +kernel
theorem dX12_takeWord_8 : decode cX12_takeWord 8 = .ok (.aload_n 0, 1) := by decide +kernel
theorem dX12_takeWord_9 : decode cX12_takeWord 9 = .ok (.iconst 1, 1) := by decide +kernel
theorem dX12_takeWord_10 : decode cX12_takeWord 10 = .ok (.invokevirtual 185, 3) := by decide +kernel
theorem dX12_takeWord_13 : decode cX12_takeWord 13 = .ok (.return_, 1) := by decide +kernel
theorem dX12_within_0 : decode cX12_within 0 = .ok (.iload_n 0, 1) := by decide +kernel
theorem dX12_within_1 : decode cX12_within 1 = .ok (.iload_n 1, 1) := by decide +kernel
theorem dX12_within_2 : decode cX12_within 2 = .ok (.if_icmp .lt 12, 3) := by decide +kernel
theorem dX12_within_5 : decode cX12_within 5 = .ok (.iload_n 0, 1) := by decide +kernel
theorem dX12_within_6 : decode cX12_within 6 = .ok (.iload_n 2, 1) := by decide +kernel
theorem dX12_within_7 : decode cX12_within 7 = .ok (.if_icmp .gt 7, 3) := by decide +kernel
theorem dX12_within_10 : decode cX12_within 10 = .ok (.iconst 1, 1) := by decide +kernel
theorem dX12_within_11 : decode cX12_within 11 = .ok (.goto 4, 3) := by decide +kernel
theorem dX12_within_14 : decode cX12_within 14 = .ok (.iconst 0, 1) := by decide +kernel
theorem dX12_within_15 : decode cX12_within 15 = .ok (.ireturn, 1) := by decide +kernel
theorem dX12_standsAsAlways_0 : decode cX12_standsAsAlways 0 = .ok (.iconst 0, 1) := by decide +kernel
theorem dX12_standsAsAlways_1 : decode cX12_standsAsAlways 1 = .ok (.istore_n 2, 1) := by decide +kernel
theorem dX12_standsAsAlways_2 : decode cX12_standsAsAlways 2 = .ok (.iload_n 2, 1) := by decide +kernel
theorem dX12_standsAsAlways_3 : decode cX12_standsAsAlways 3 = .ok (.sipush 180, 3) := by decide +kernel
theorem dX12_standsAsAlways_6 : decode cX12_standsAsAlways 6 = .ok (.if_icmp .ge 18, 3) := by decide +kernel
theorem dX12_standsAsAlways_9 : decode cX12_standsAsAlways 9 = .ok (.aload_n 0, 1) := by decide +kernel
theorem dX12_standsAsAlways_10 : decode cX12_standsAsAlways 10 = .ok (.getfield 85, 3) := by decide +kernel
theorem dX12_standsAsAlways_13 : decode cX12_standsAsAlways 13 = .ok (.iload_n 1, 1) := by decide +kernel
theorem dX12_standsAsAlways_14 : decode cX12_standsAsAlways 14 = .ok (.iload_n 2, 1) := by decide +kernel
theorem dX12_standsAsAlways_15 : decode cX12_standsAsAlways 15 = .ok (.iadd, 1) := by decide +kernel
theorem dX12_standsAsAlways_16 : decode cX12_standsAsAlways 16 = .ok (.iconst 0, 1) := by decide +kernel
theorem dX12_standsAsAlways_17 : decode cX12_standsAsAlways 17 = .ok (.iastore, 1) := by decide +kernel
theorem dX12_standsAsAlways_18 : decode cX12_standsAsAlways 18 = .ok (.iinc 2 1, 3) := by decide +kernel
theorem dX12_standsAsAlways_21 : decode cX12_standsAsAlways 21 = .ok (.goto (-19), 3) := by decide +kernel
theorem dX12_standsAsAlways_24 : decode cX12_standsAsAlways 24 = .ok (.aload_n 0, 1) := by decide +kernel
theorem dX12_standsAsAlways_25 : decode cX12_standsAsAlways 25 = .ok (.getfield 85, 3) := by decide +kernel
theorem dX12_standsAsAlways_28 : decode cX12_standsAsAlways 28 = .ok (.iload_n 1, 1) := by decide +kernel
theorem dX12_standsAsAlways_29 : decode cX12_standsAsAlways 29 = .ok (.iconst 4, 1) := by decide +kernel
theorem dX12_standsAsAlways_30 : decode cX12_standsAsAlways 30 = .ok (.iadd, 1) := by decide +kernel
theorem dX12_standsAsAlways_31 : decode cX12_standsAsAlways 31 = .ok (.bipush 14, 2) := by decide +kernel
theorem dX12_standsAsAlways_33 : decode cX12_standsAsAlways 33 = .ok (.iastore, 1) := by decide +kernel
theorem dX12_standsAsAlways_34 : decode cX12_standsAsAlways 34 = .ok (.aload_n 0, 1) := by decide +kernel
theorem dX12_standsAsAlways_35 : decode cX12_standsAsAlways 35 = .ok (.getfield 85, 3) := by decide +kernel
theorem dX12_standsAsAlways_38 : decode cX12_standsAsAlways 38 = .ok (.iload_n 1, 1) := by decide +kernel
theorem dX12_standsAsAlways_39 : decode cX12_standsAsAlways 39 = .ok (.iconst 5, 1) := by decide +kernel
theorem dX12_standsAsAlways_40 : decode cX12_standsAsAlways 40 = .ok (.iadd, 1) := by decide +kernel
theorem dX12_standsAsAlways_41 : decode cX12_standsAsAlways 41 = .ok (.iconst (-1), 1) := by decide +kernel
theorem dX12_standsAsAlways_42 : decode cX12_standsAsAlways 42 = .ok (.iastore, 1) := by decide +kernel
theorem dX12_standsAsAlways_43 : decode cX12_standsAsAlways 43 = .ok (.aload_n 0, 1) := by decide +kernel
theorem dX12_standsAsAlways_44 : decode cX12_standsAsAlways 44 = .ok (.getfield 85, 3) := by decide +kernel
theorem dX12_standsAsAlways_47 : decode cX12_standsAsAlways 47 = .ok (.iload_n 1, 1) := by decide +kernel
theorem dX12_standsAsAlways_48 : decode cX12_standsAsAlways 48 = .ok (.iconst 5, 1) := by decide +kernel
theorem dX12_standsAsAlways_49 : decode cX12_standsAsAlways 49 = .ok (.iadd, 1) := by decide +kernel
theorem dX12_standsAsAlways_50 : decode cX12_standsAsAlways 50 = .ok (.iconst 1, 1) := by decide +kernel
theorem dX12_standsAsAlways_51 : decode cX12_standsAsAlways 51 = .ok (.iadd, 1) := by decide +kernel
theorem dX12_standsAsAlways_52 : decode cX12_standsAsAlways 52 = .ok (.iconst (-1), 1) := by decide +kernel
theorem dX12_standsAsAlways_53 : decode cX12_standsAsAlways 53 = .ok (.iastore, 1) := by decide +kernel
theorem dX12_standsAsAlways_54 : decode cX12_standsAsAlways 54 = .ok (.return_, 1) := by decide +kernel
theorem dX12_takeNumber_0 : decode cX12_takeNumber 0 = .ok (.aload_n 0, 1) := by decide +kernel
theorem dX12_takeNumber_1 : decode cX12_takeNumber 1 = .ok (.getfield 179, 3) := by decide +kernel
theorem dX12_takeNumber_4 : decode cX12_takeNumber 4 = .ok (.ifCond .ne 24, 3) := by decide +kernel
theorem dX12_takeNumber_7 : decode cX12_takeNumber 7 = .ok (.aload_n 0, 1) := by decide +kernel
theorem dX12_takeNumber_8 : decode cX12_takeNumber 8 = .ok (.getfield 24, 3) := by decide +kernel
theorem dX12_takeNumber_11 : decode cX12_takeNumber 11 = .ok (.aload_n 0, 1) := by decide +kernel
theorem dX12_takeNumber_12 : decode cX12_takeNumber 12 = .ok (.getfield 176, 3) := by decide +kernel
theorem dX12_takeNumber_15 : decode cX12_takeNumber 15 = .ok (.iaload, 1) := by decide +kernel
theorem dX12_takeNumber_16 : decode cX12_takeNumber 16 = .ok (.iconst 2, 1) := by decide +kernel
theorem dX12_takeNumber_17 : decode cX12_takeNumber 17 = .ok (.if_icmp .eq 11, 3) := by decide +kernel
theorem dX12_takeNumber_20 : decode cX12_takeNumber 20 = .ok (.aload_n 0, 1) := by decide +kernel
theorem dX12_takeNumber_21 : decode cX12_takeNumber 21 = .ok (.iconst 1, 1) := by decide +kernel
theorem dX12_takeNumber_22 : decode cX12_takeNumber 22 = .ok (.invokevirtual 185, 3) := by decide +kernel
theorem dX12_takeNumber_25 : decode cX12_takeNumber 25 = .ok (.goto 45, 3) := by decide +kernel
theorem dX12_takeNumber_28 : decode cX12_takeNumber 28 = .ok (.aload_n 0, 1) := by decide +kernel
theorem dX12_takeNumber_29 : decode cX12_takeNumber 29 = .ok (.getfield 179, 3) := by decide +kernel
theorem dX12_takeNumber_32 : decode cX12_takeNumber 32 = .ok (.ifCond .ne 38, 3) := by decide +kernel
theorem dX12_takeNumber_35 : decode cX12_takeNumber 35 = .ok (.aload_n 0, 1) := by decide +kernel
theorem dX12_takeNumber_36 : decode cX12_takeNumber 36 = .ok (.getfield 30, 3) := by decide +kernel
theorem dX12_takeNumber_39 : decode cX12_takeNumber 39 = .ok (.aload_n 0, 1) := by decide +kernel
theorem dX12_takeNumber_40 : decode cX12_takeNumber 40 = .ok (.getfield 176, 3) := by decide +kernel
theorem dX12_takeNumber_43 : decode cX12_takeNumber 43 = .ok (.laload, 1) := by decide +kernel
theorem dX12_takeNumber_44 : decode cX12_takeNumber 44 = .ok (.iload_n 1, 1) := by decide +kernel
theorem dX12_takeNumber_45 : decode cX12_takeNumber 45 = .ok (.i2l, 1) := by decide +kernel
theorem dX12_takeNumber_46 : decode cX12_takeNumber 46 = .ok (.lcmp, 1) := by decide +kernel
theorem dX12_takeNumber_47 : decode cX12_takeNumber 47 = .ok (.ifCond .lt 18, 3) := by decide +kernel
theorem dX12_takeNumber_50 : decode cX12_takeNumber 50 = .ok (.aload_n 0, 1) := by decide +kernel
theorem dX12_takeNumber_51 : decode cX12_takeNumber 51 = .ok (.getfield 30, 3) := by decide +kernel
theorem dX12_takeNumber_54 : decode cX12_takeNumber 54 = .ok (.aload_n 0, 1) := by decide +kernel
theorem dX12_takeNumber_55 : decode cX12_takeNumber 55 = .ok (.getfield 176, 3) := by decide +kernel
theorem dX12_takeNumber_58 : decode cX12_takeNumber 58 = .ok (.laload, 1) := by decide +kernel
theorem dX12_takeNumber_59 : decode cX12_takeNumber 59 = .ok (.iload_n 2, 1) := by decide +kernel
theorem dX12_takeNumber_60 : decode cX12_takeNumber 60 = .ok (.i2l, 1) := by decide +kernel
theorem dX12_takeNumber_61 : decode cX12_takeNumber 61 = .ok (.lcmp, 1) := by decide +kernel
theorem dX12_takeNumber_62 : decode cX12_takeNumber 62 = .ok (.ifCond .le 8, 3) := by decide +kernel
theorem dX12_takeNumber_65 : decode cX12_takeNumber 65 = .ok (.aload_n 0, 1) := by decide +kernel
theorem dX12_takeNumber_66 : decode cX12_takeNumber 66 = .ok (.iconst 4, 1) := by decide +kernel
theorem dX12_takeNumber_67 : decode cX12_takeNumber 67 = .ok (.invokevirtual 185, 3) := by decide +kernel
theorem dX12_takeNumber_70 : decode cX12_takeNumber 70 = .ok (.aload_n 0, 1) := by decide +kernel
theorem dX12_takeNumber_71 : decode cX12_takeNumber 71 = .ok (.getfield 179, 3) := by decide +kernel
theorem dX12_takeNumber_74 : decode cX12_takeNumber 74 = .ok (.ifCond .le 5, 3) := by decide +kernel
theorem dX12_takeNumber_77 : decode cX12_takeNumber 77 = .ok (.iconst 0, 1) := by decide +kernel
theorem dX12_takeNumber_78 : decode cX12_takeNumber 78 = .ok (.ireturn, 1) := by decide +kernel
theorem dX12_takeNumber_79 : decode cX12_takeNumber 79 = .ok (.aload_n 0, 1) := by decide +kernel
theorem dX12_takeNumber_80 : decode cX12_takeNumber 80 = .ok (.dup, 1) := by decide +kernel
theorem dX12_takeNumber_81 : decode cX12_takeNumber 81 = .ok (.getfield 176, 3) := by decide +kernel
theorem dX12_takeNumber_84 : decode cX12_takeNumber 84 = .ok (.iconst 1, 1) := by decide +kernel
theorem dX12_takeNumber_85 : decode cX12_takeNumber 85 = .ok (.iadd, 1) := by decide +kernel
theorem dX12_takeNumber_86 : decode cX12_takeNumber 86 = .ok (.putfield 176, 3) := by decide +kernel
theorem dX12_takeNumber_89 : decode cX12_takeNumber 89 = .ok (.aload_n 0, 1) := by decide +kernel
theorem dX12_takeNumber_90 : decode cX12_takeNumber 90 = .ok (.getfield 30, 3) := by decide +kernel
theorem dX12_takeNumber_93 : decode cX12_takeNumber 93 = .ok (.aload_n 0, 1) := by decide +kernel
theorem dX12_takeNumber_94 : decode cX12_takeNumber 94 = .ok (.getfield 176, 3) := by decide +kernel
theorem dX12_takeNumber_97 : decode cX12_takeNumber 97 = .ok (.iconst 1, 1) := by decide +kernel
theorem dX12_takeNumber_98 : decode cX12_takeNumber 98 = .ok (.isub, 1) := by decide +kernel
theorem dX12_takeNumber_99 : decode cX12_takeNumber 99 = .ok (.laload, 1) := by decide +kernel
theorem dX12_takeNumber_100 : decode cX12_takeNumber 100 = .ok (.l2i, 1) := by decide +kernel
theorem dX12_takeNumber_101 : decode cX12_takeNumber 101 = .ok (.ireturn, 1) := by decide +kernel
theorem dX12_takeAfter_0 : decode cX12_takeAfter 0 = .ok (.aload_n 0, 1) := by decide +kernel
theorem dX12_takeAfter_1 : decode cX12_takeAfter 1 = .ok (.iload_n 1, 1) := by decide +kernel
theorem dX12_takeAfter_2 : decode cX12_takeAfter 2 = .ok (.invokevirtual 194, 3) := by decide +kernel
theorem dX12_takeAfter_5 : decode cX12_takeAfter 5 = .ok (.aload_n 0, 1) := by decide +kernel
theorem dX12_takeAfter_6 : decode cX12_takeAfter 6 = .ok (.iload_n 2, 1) := by decide +kernel
theorem dX12_takeAfter_7 : decode cX12_takeAfter 7 = .ok (.iload_n 3, 1) := by decide +kernel
theorem dX12_takeAfter_8 : decode cX12_takeAfter 8 = .ok (.invokevirtual 197, 3) := by decide +kernel
theorem dX12_takeAfter_11 : decode cX12_takeAfter 11 = .ok (.ireturn, 1) := by decide +kernel
theorem dX12_isName_0 : decode cX12_isName 0 = .ok (.aload_n 0, 1) := by decide +kernel
theorem dX12_isName_1 : decode cX12_isName 1 = .ok (.getfield 179, 3) := by decide +kernel
theorem dX12_isName_4 : decode cX12_isName 4 = .ok (.ifCond .ne 20, 3) := by decide +kernel
theorem dX12_isName_7 : decode cX12_isName 7 = .ok (.aload_n 0, 1) := by decide +kernel
theorem dX12_isName_8 : decode cX12_isName 8 = .ok (.getfield 24, 3) := by decide +kernel
theorem dX12_isName_11 : decode cX12_isName 11 = .ok (.aload_n 0, 1) := by decide +kernel
theorem dX12_isName_12 : decode cX12_isName 12 = .ok (.getfield 176, 3) := by decide +kernel
theorem dX12_isName_15 : decode cX12_isName 15 = .ok (.iaload, 1) := by decide +kernel
theorem dX12_isName_16 : decode cX12_isName 16 = .ok (.iconst 1, 1) := by decide +kernel
theorem dX12_isName_17 : decode cX12_isName 17 = .ok (.if_icmp .ne 7, 3) := by decide +kernel
theorem dX12_isName_20 : decode cX12_isName 20 = .ok (.iconst 1, 1) := by decide +kernel
theorem dX12_isName_21 : decode cX12_isName 21 = .ok (.goto 4, 3) := by decide +kernel
theorem dX12_isName_24 : decode cX12_isName 24 = .ok (.iconst 0, 1) := by decide +kernel
theorem dX12_isName_25 : decode cX12_isName 25 = .ok (.istore_n 1, 1) := by decide +kernel
theorem dX12_isName_26 : decode cX12_isName 26 = .ok (.iconst 0, 1) := by decide +kernel
theorem dX12_isName_27 : decode cX12_isName 27 = .ok (.istore_n 2, 1) := by decide +kernel
theorem dX12_isName_28 : decode cX12_isName 28 = .ok (.iload_n 2, 1) := by decide +kernel
theorem dX12_isName_29 : decode cX12_isName 29 = .ok (.bipush 20, 2) := by decide +kernel
theorem dX12_isName_31 : decode cX12_isName 31 = .ok (.if_icmp .ge 38, 3) := by decide +kernel
theorem dX12_isName_34 : decode cX12_isName 34 = .ok (.iload_n 1, 1) := by decide +kernel
theorem dX12_isName_35 : decode cX12_isName 35 = .ok (.ifCond .eq 26, 3) := by decide +kernel
theorem dX12_isName_38 : decode cX12_isName 38 = .ok (.aload_n 0, 1) := by decide +kernel
theorem dX12_isName_39 : decode cX12_isName 39 = .ok (.getfield 30, 3) := by decide +kernel
theorem dX12_isName_42 : decode cX12_isName 42 = .ok (.aload_n 0, 1) := by decide +kernel
theorem dX12_isName_43 : decode cX12_isName 43 = .ok (.getfield 176, 3) := by decide +kernel
theorem dX12_isName_46 : decode cX12_isName 46 = .ok (.laload, 1) := by decide +kernel
theorem dX12_isName_47 : decode cX12_isName 47 = .ok (.aload_n 0, 1) := by decide +kernel
theorem dX12_isName_48 : decode cX12_isName 48 = .ok (.getfield 82, 3) := by decide +kernel
theorem dX12_isName_51 : decode cX12_isName 51 = .ok (.iload_n 2, 1) := by decide +kernel
theorem dX12_isName_52 : decode cX12_isName 52 = .ok (.laload, 1) := by decide +kernel
theorem dX12_isName_53 : decode cX12_isName 53 = .ok (.lcmp, 1) := by decide +kernel
theorem dX12_isName_54 : decode cX12_isName 54 = .ok (.ifCond .eq 7, 3) := by decide +kernel
theorem dX12_isName_57 : decode cX12_isName 57 = .ok (.iconst 1, 1) := by decide +kernel
theorem dX12_isName_58 : decode cX12_isName 58 = .ok (.goto 4, 3) := by decide +kernel
theorem dX12_isName_61 : decode cX12_isName 61 = .ok (.iconst 0, 1) := by decide +kernel
theorem dX12_isName_62 : decode cX12_isName 62 = .ok (.istore_n 1, 1) := by decide +kernel
theorem dX12_isName_63 : decode cX12_isName 63 = .ok (.iinc 2 1, 3) := by decide +kernel
theorem dX12_isName_66 : decode cX12_isName 66 = .ok (.goto (-38), 3) := by decide +kernel
theorem dX12_isName_69 : decode cX12_isName 69 = .ok (.iload_n 1, 1) := by decide +kernel
theorem dX12_isName_70 : decode cX12_isName 70 = .ok (.ireturn, 1) := by decide +kernel
theorem dX12_find_0 : decode cX12_find 0 = .ok (.iconst 0, 1) := by decide +kernel
theorem dX12_find_1 : decode cX12_find 1 = .ok (.istore_n 1, 1) := by decide +kernel
theorem dX12_find_2 : decode cX12_find 2 = .ok (.iload_n 1, 1) := by decide +kernel
theorem dX12_find_3 : decode cX12_find 3 = .ok (.aload_n 0, 1) := by decide +kernel
theorem dX12_find_4 : decode cX12_find 4 = .ok (.getfield 201, 3) := by decide +kernel
theorem dX12_find_7 : decode cX12_find 7 = .ok (.if_icmp .ge 35, 3) := by decide +kernel
theorem dX12_find_10 : decode cX12_find 10 = .ok (.aload_n 0, 1) := by decide +kernel
theorem dX12_find_11 : decode cX12_find 11 = .ok (.getfield 100, 3) := by decide +kernel
theorem dX12_find_14 : decode cX12_find 14 = .ok (.iload_n 1, 1) := by decide +kernel
theorem dX12_find_15 : decode cX12_find 15 = .ok (.laload, 1) := by decide +kernel
theorem dX12_find_16 : decode cX12_find 16 = .ok (.aload_n 0, 1) := by decide +kernel
theorem dX12_find_17 : decode cX12_find 17 = .ok (.getfield 30, 3) := by decide +kernel
theorem dX12_find_20 : decode cX12_find 20 = .ok (.aload_n 0, 1) := by decide +kernel
theorem dX12_find_21 : decode cX12_find 21 = .ok (.getfield 176, 3) := by decide +kernel
theorem dX12_find_24 : decode cX12_find 24 = .ok (.laload, 1) := by decide +kernel
theorem dX12_find_25 : decode cX12_find 25 = .ok (.lcmp, 1) := by decide +kernel
theorem dX12_find_26 : decode cX12_find 26 = .ok (.ifCond .ne 10, 3) := by decide +kernel
theorem dX12_find_29 : decode cX12_find 29 = .ok (.aload_n 0, 1) := by decide +kernel
theorem dX12_find_30 : decode cX12_find 30 = .ok (.getfield 103, 3) := by decide +kernel
theorem dX12_find_33 : decode cX12_find 33 = .ok (.iload_n 1, 1) := by decide +kernel
theorem dX12_find_34 : decode cX12_find 34 = .ok (.iaload, 1) := by decide +kernel
theorem dX12_find_35 : decode cX12_find 35 = .ok (.ireturn, 1) := by decide +kernel
theorem dX12_find_36 : decode cX12_find 36 = .ok (.iinc 1 1, 3) := by decide +kernel
theorem dX12_find_39 : decode cX12_find 39 = .ok (.goto (-37), 3) := by decide +kernel
theorem dX12_find_42 : decode cX12_find 42 = .ok (.iconst (-1), 1) := by decide +kernel
theorem dX12_find_43 : decode cX12_find 43 = .ok (.ireturn, 1) := by decide +kernel
theorem dX12_hills_0 : decode cX12_hills 0 = .ok (.aload_n 0, 1) := by decide +kernel
theorem dX12_hills_1 : decode cX12_hills 1 = .ok (.iconst 0, 1) := by decide +kernel
theorem dX12_hills_2 : decode cX12_hills 2 = .ok (.putfield 1, 3) := by decide +kernel
theorem dX12_hills_5 : decode cX12_hills 5 = .ok (.aload_n 0, 1) := by decide +kernel
theorem dX12_hills_6 : decode cX12_hills 6 = .ok (.invokevirtual 204, 3) := by decide +kernel
theorem dX12_hills_9 : decode cX12_hills 9 = .ok (.aload_n 0, 1) := by decide +kernel
theorem dX12_hills_10 : decode cX12_hills 10 = .ok (.iconst 0, 1) := by decide +kernel
theorem dX12_hills_11 : decode cX12_hills 11 = .ok (.putfield 207, 3) := by decide +kernel
theorem dX12_hills_14 : decode cX12_hills 14 = .ok (.aload_n 0, 1) := by decide +kernel
theorem dX12_hills_15 : decode cX12_hills 15 = .ok (.iconst 0, 1) := by decide +kernel
theorem dX12_hills_16 : decode cX12_hills 16 = .ok (.putfield 201, 3) := by decide +kernel
theorem dX12_hills_19 : decode cX12_hills 19 = .ok (.aload_n 0, 1) := by decide +kernel
theorem dX12_hills_20 : decode cX12_hills 20 = .ok (.iconst 0, 1) := by decide +kernel
theorem dX12_hills_21 : decode cX12_hills 21 = .ok (.putfield 210, 3) := by decide +kernel
theorem dX12_hills_24 : decode cX12_hills 24 = .ok (.aload_n 0, 1) := by decide +kernel
theorem dX12_hills_25 : decode cX12_hills 25 = .ok (.iconst 0, 1) := by decide +kernel
theorem dX12_hills_26 : decode cX12_hills 26 = .ok (.putfield 213, 3) := by decide +kernel
theorem dX12_hills_29 : decode cX12_hills 29 = .ok (.aload_n 0, 1) := by decide +kernel
theorem dX12_hills_30 : decode cX12_hills 30 = .ok (.iconst 0, 1) := by decide +kernel
theorem dX12_hills_31 : decode cX12_hills 31 = .ok (.putfield 216, 3) := by decide +kernel
theorem dX12_hills_34 : decode cX12_hills 34 = .ok (.aload_n 0, 1) := by decide +kernel
theorem dX12_hills_35 : decode cX12_hills 35 = .ok (.sipush 180, 3) := by decide +kernel
theorem dX12_hills_38 : decode cX12_hills 38 = .ok (.invokevirtual 149, 3) := by decide +kernel
theorem dX12_hills_41 : decode cX12_hills 41 = .ok (.iconst 0, 1) := by decide +kernel
theorem dX12_hills_42 : decode cX12_hills 42 = .ok (.istore_n 1, 1) := by decide +kernel
theorem dX12_hills_43 : decode cX12_hills 43 = .ok (.iload_n 1, 1) := by decide +kernel
theorem dX12_hills_44 : decode cX12_hills 44 = .ok (.bipush 120, 2) := by decide +kernel
theorem dX12_hills_46 : decode cX12_hills 46 = .ok (.if_icmp .ge 16, 3) := by decide +kernel
theorem dX12_hills_49 : decode cX12_hills 49 = .ok (.aload_n 0, 1) := by decide +kernel
theorem dX12_hills_50 : decode cX12_hills 50 = .ok (.getfield 88, 3) := by decide +kernel
theorem dX12_hills_53 : decode cX12_hills 53 = .ok (.iload_n 1, 1) := by decide +kernel
theorem dX12_hills_54 : decode cX12_hills 54 = .ok (.iconst 0, 1) := by decide +kernel
theorem dX12_hills_55 : decode cX12_hills 55 = .ok (.iastore, 1) := by decide +kernel
theorem dX12_hills_56 : decode cX12_hills 56 = .ok (.iinc 1 1, 3) := by decide +kernel
theorem dX12_hills_59 : decode cX12_hills 59 = .ok (.goto (-16), 3) := by decide +kernel
theorem dX12_hills_62 : decode cX12_hills 62 = .ok (.iconst 0, 1) := by decide +kernel
theorem dX12_hills_63 : decode cX12_hills 63 = .ok (.istore_n 1, 1) := by decide +kernel
theorem dX12_hills_64 : decode cX12_hills 64 = .ok (.iload_n 1, 1) := by decide +kernel
theorem dX12_hills_65 : decode cX12_hills 65 = .ok (.sipush 144, 3) := by decide +kernel
theorem dX12_hills_68 : decode cX12_hills 68 = .ok (.if_icmp .ge 16, 3) := by decide +kernel
theorem dX12_hills_71 : decode cX12_hills 71 = .ok (.aload_n 0, 1) := by decide +kernel
theorem dX12_hills_72 : decode cX12_hills 72 = .ok (.getfield 91, 3) := by decide +kernel
theorem dX12_hills_75 : decode cX12_hills 75 = .ok (.iload_n 1, 1) := by decide +kernel
theorem dX12_hills_76 : decode cX12_hills 76 = .ok (.iconst (-1), 1) := by decide +kernel
theorem dX12_hills_77 : decode cX12_hills 77 = .ok (.iastore, 1) := by decide +kernel
theorem dX12_hills_78 : decode cX12_hills 78 = .ok (.iinc 1 1, 3) := by decide +kernel
theorem dX12_hills_81 : decode cX12_hills 81 = .ok (.goto (-17), 3) := by decide +kernel
theorem dX12_hills_84 : decode cX12_hills 84 = .ok (.aload_n 0, 1) := by decide +kernel
theorem dX12_hills_85 : decode cX12_hills 85 = .ok (.iconst 0, 1) := by decide +kernel
theorem dX12_hills_86 : decode cX12_hills 86 = .ok (.invokevirtual 194, 3) := by decide +kernel
theorem dX12_hills_89 : decode cX12_hills 89 = .ok (.aload_n 0, 1) := by decide +kernel
theorem dX12_hills_90 : decode cX12_hills 90 = .ok (.getfield 85, 3) := by decide +kernel
theorem dX12_hills_93 : decode cX12_hills 93 = .ok (.sipush 180, 3) := by decide +kernel
theorem dX12_hills_96 : decode cX12_hills 96 = .ok (.aload_n 0, 1) := by decide +kernel
theorem dX12_hills_97 : decode cX12_hills 97 = .ok (.iconst 2, 1) := by decide +kernel
theorem dX12_hills_98 : decode cX12_hills 98 = .ok (.bipush 8, 2) := by decide +kernel
theorem dX12_hills_100 : decode cX12_hills 100 = .ok (.invokevirtual 197, 3) := by decide +kernel
theorem dX12_hills_103 : decode cX12_hills 103 = .ok (.iastore, 1) := by decide +kernel
theorem dX12_hills_104 : decode cX12_hills 104 = .ok (.aload_n 0, 1) := by decide +kernel
theorem dX12_hills_105 : decode cX12_hills 105 = .ok (.getfield 85, 3) := by decide +kernel
theorem dX12_hills_108 : decode cX12_hills 108 = .ok (.sipush 181, 3) := by decide +kernel
theorem dX12_hills_111 : decode cX12_hills 111 = .ok (.aload_n 0, 1) := by decide +kernel
theorem dX12_hills_112 : decode cX12_hills 112 = .ok (.iconst 2, 1) := by decide +kernel
theorem dX12_hills_113 : decode cX12_hills 113 = .ok (.bipush 8, 2) := by decide +kernel
theorem dX12_hills_115 : decode cX12_hills 115 = .ok (.invokevirtual 197, 3) := by decide +kernel
theorem dX12_hills_118 : decode cX12_hills 118 = .ok (.iastore, 1) := by decide +kernel
theorem dX12_hills_119 : decode cX12_hills 119 = .ok (.aload_n 0, 1) := by decide +kernel
theorem dX12_hills_120 : decode cX12_hills 120 = .ok (.bipush 59, 2) := by decide +kernel
theorem dX12_hills_122 : decode cX12_hills 122 = .ok (.invokevirtual 220, 3) := by decide +kernel
theorem dX12_hills_125 : decode cX12_hills 125 = .ok (.aload_n 0, 1) := by decide +kernel
theorem dX12_hills_126 : decode cX12_hills 126 = .ok (.getfield 179, 3) := by decide +kernel
theorem dX12_hills_129 : decode cX12_hills 129 = .ok (.ifCond .ne 28, 3) := by decide +kernel
theorem dX12_hills_132 : decode cX12_hills 132 = .ok (.aload_n 0, 1) := by decide +kernel
theorem dX12_hills_133 : decode cX12_hills 133 = .ok (.getfield 24, 3) := by decide +kernel
theorem dX12_hills_136 : decode cX12_hills 136 = .ok (.aload_n 0, 1) := by decide +kernel
theorem dX12_hills_137 : decode cX12_hills 137 = .ok (.getfield 176, 3) := by decide +kernel
theorem dX12_hills_140 : decode cX12_hills 140 = .ok (.iaload, 1) := by decide +kernel
theorem dX12_hills_141 : decode cX12_hills 141 = .ok (.ifCond .eq 16, 3) := by decide +kernel
theorem dX12_hills_144 : decode cX12_hills 144 = .ok (.aload_n 0, 1) := by decide +kernel
theorem dX12_hills_145 : decode cX12_hills 145 = .ok (.invokevirtual 223, 3) := by decide +kernel
theorem dX12_hills_148 : decode cX12_hills 148 = .ok (.aload_n 0, 1) := by decide +kernel
theorem dX12_hills_149 : decode cX12_hills 149 = .ok (.bipush 59, 2) := by decide +kernel
theorem dX12_hills_151 : decode cX12_hills 151 = .ok (.invokevirtual 220, 3) := by decide +kernel
theorem dX12_hills_154 : decode cX12_hills 154 = .ok (.goto (-29), 3) := by decide +kernel
theorem dX12_hills_157 : decode cX12_hills 157 = .ok (.aload_n 0, 1) := by decide +kernel
theorem dX12_hills_158 : decode cX12_hills 158 = .ok (.getfield 179, 3) := by decide +kernel
theorem dX12_hills_161 : decode cX12_hills 161 = .ok (.ifCond .le 8, 3) := by decide +kernel
theorem dX12_hills_164 : decode cX12_hills 164 = .ok (.aload_n 0, 1) := by decide +kernel
theorem dX12_hills_165 : decode cX12_hills 165 = .ok (.getfield 179, 3) := by decide +kernel
theorem dX12_hills_168 : decode cX12_hills 168 = .ok (.ireturn, 1) := by decide +kernel
theorem dX12_hills_169 : decode cX12_hills 169 = .ok (.iconst 0, 1) := by decide +kernel
theorem dX12_hills_170 : decode cX12_hills 170 = .ok (.istore_n 1, 1) := by decide +kernel
theorem dX12_hills_171 : decode cX12_hills 171 = .ok (.iload_n 1, 1) := by decide +kernel
theorem dX12_hills_172 : decode cX12_hills 172 = .ok (.sipush 180, 3) := by decide +kernel
theorem dX12_hills_175 : decode cX12_hills 175 = .ok (.if_icmp .ge 25, 3) := by decide +kernel
theorem dX12_hills_178 : decode cX12_hills 178 = .ok (.aload_n 0, 1) := by decide +kernel
theorem dX12_hills_179 : decode cX12_hills 179 = .ok (.getfield 85, 3) := by decide +kernel
theorem dX12_hills_182 : decode cX12_hills 182 = .ok (.iload_n 1, 1) := by decide +kernel
theorem dX12_hills_183 : decode cX12_hills 183 = .ok (.aload_n 0, 1) := by decide +kernel
theorem dX12_hills_184 : decode cX12_hills 184 = .ok (.getfield 85, 3) := by decide +kernel
theorem dX12_hills_187 : decode cX12_hills 187 = .ok (.sipush 180, 3) := by decide +kernel
theorem dX12_hills_190 : decode cX12_hills 190 = .ok (.iload_n 1, 1) := by decide +kernel
theorem dX12_hills_191 : decode cX12_hills 191 = .ok (.iadd, 1) := by decide +kernel
theorem dX12_hills_192 : decode cX12_hills 192 = .ok (.iaload, 1) := by decide +kernel
theorem dX12_hills_193 : decode cX12_hills 193 = .ok (.iastore, 1) := by decide +kernel
theorem dX12_hills_194 : decode cX12_hills 194 = .ok (.iinc 1 1, 3) := by decide +kernel
theorem dX12_hills_197 : decode cX12_hills 197 = .ok (.goto (-26), 3) := by decide +kernel
theorem dX12_hills_200 : decode cX12_hills 200 = .ok (.iconst 0, 1) := by decide +kernel
theorem dX12_hills_201 : decode cX12_hills 201 = .ok (.istore_n 1, 1) := by decide +kernel
theorem dX12_hills_202 : decode cX12_hills 202 = .ok (.iload_n 1, 1) := by decide +kernel
theorem dX12_hills_203 : decode cX12_hills 203 = .ok (.aload_n 0, 1) := by decide +kernel
theorem dX12_hills_204 : decode cX12_hills 204 = .ok (.getfield 207, 3) := by decide +kernel
theorem dX12_hills_207 : decode cX12_hills 207 = .ok (.if_icmp .ge 41, 3) := by decide +kernel
theorem dX12_hills_210 : decode cX12_hills 210 = .ok (.aload_n 0, 1) := by decide +kernel
theorem dX12_hills_211 : decode cX12_hills 211 = .ok (.getfield 94, 3) := by decide +kernel
theorem dX12_hills_214 : decode cX12_hills 214 = .ok (.iload_n 1, 1) := by decide +kernel
theorem dX12_hills_215 : decode cX12_hills 215 = .ok (.aload_n 0, 1) := by decide +kernel
theorem dX12_hills_216 : decode cX12_hills 216 = .ok (.getfield 94, 3) := by decide +kernel
theorem dX12_hills_219 : decode cX12_hills 219 = .ok (.sipush 1100, 3) := by decide +kernel
theorem dX12_hills_222 : decode cX12_hills 222 = .ok (.iload_n 1, 1) := by decide +kernel
theorem dX12_hills_223 : decode cX12_hills 223 = .ok (.iadd, 1) := by decide +kernel
theorem dX12_hills_224 : decode cX12_hills 224 = .ok (.iaload, 1) := by decide +kernel
theorem dX12_hills_225 : decode cX12_hills 225 = .ok (.iastore, 1) := by decide +kernel
theorem dX12_hills_226 : decode cX12_hills 226 = .ok (.aload_n 0, 1) := by decide +kernel
theorem dX12_hills_227 : decode cX12_hills 227 = .ok (.getfield 97, 3) := by decide +kernel
theorem dX12_hills_230 : decode cX12_hills 230 = .ok (.iload_n 1, 1) := by decide +kernel
theorem dX12_hills_231 : decode cX12_hills 231 = .ok (.aload_n 0, 1) := by decide +kernel
theorem dX12_hills_232 : decode cX12_hills 232 = .ok (.getfield 97, 3) := by decide +kernel
theorem dX12_hills_235 : decode cX12_hills 235 = .ok (.sipush 1100, 3) := by decide +kernel
theorem dX12_hills_238 : decode cX12_hills 238 = .ok (.iload_n 1, 1) := by decide +kernel
theorem dX12_hills_239 : decode cX12_hills 239 = .ok (.iadd, 1) := by decide +kernel
theorem dX12_hills_240 : decode cX12_hills 240 = .ok (.iaload, 1) := by decide +kernel
theorem dX12_hills_241 : decode cX12_hills 241 = .ok (.iastore, 1) := by decide +kernel
theorem dX12_hills_242 : decode cX12_hills 242 = .ok (.iinc 1 1, 3) := by decide +kernel
theorem dX12_hills_245 : decode cX12_hills 245 = .ok (.goto (-43), 3) := by decide +kernel
theorem dX12_hills_248 : decode cX12_hills 248 = .ok (.iconst 0, 1) := by decide +kernel
theorem dX12_hills_249 : decode cX12_hills 249 = .ok (.istore_n 1, 1) := by decide +kernel
theorem dX12_hills_250 : decode cX12_hills 250 = .ok (.iload_n 1, 1) := by decide +kernel
theorem dX12_hills_251 : decode cX12_hills 251 = .ok (.aload_n 0, 1) := by decide +kernel
theorem dX12_hills_252 : decode cX12_hills 252 = .ok (.invokevirtual 226, 3) := by decide +kernel
theorem dX12_hills_255 : decode cX12_hills 255 = .ok (.if_icmp .ge 68, 3) := by decide +kernel
theorem dX12_hills_258 : decode cX12_hills 258 = .ok (.iconst 0, 1) := by decide +kernel
theorem dX12_hills_259 : decode cX12_hills 259 = .ok (.istore_n 2, 1) := by decide +kernel
theorem dX12_hills_260 : decode cX12_hills 260 = .ok (.iload_n 2, 1) := by decide +kernel
theorem dX12_hills_261 : decode cX12_hills 261 = .ok (.bipush 24, 2) := by decide +kernel
theorem dX12_hills_263 : decode cX12_hills 263 = .ok (.if_icmp .ge 54, 3) := by decide +kernel
theorem dX12_hills_266 : decode cX12_hills 266 = .ok (.bipush 24, 2) := by decide +kernel
theorem dX12_hills_268 : decode cX12_hills 268 = .ok (.iload_n 1, 1) := by decide +kernel
theorem dX12_hills_269 : decode cX12_hills 269 = .ok (.imul, 1) := by decide +kernel
theorem dX12_hills_270 : decode cX12_hills 270 = .ok (.iload_n 2, 1) := by decide +kernel
theorem dX12_hills_271 : decode cX12_hills 271 = .ok (.iadd, 1) := by decide +kernel
theorem dX12_hills_272 : decode cX12_hills 272 = .ok (.istore_n 3, 1) := by decide +kernel
theorem dX12_hills_273 : decode cX12_hills 273 = .ok (.aload_n 0, 1) := by decide +kernel
theorem dX12_hills_274 : decode cX12_hills 274 = .ok (.getfield 85, 3) := by decide +kernel
theorem dX12_hills_277 : decode cX12_hills 277 = .ok (.bipush 19, 2) := by decide +kernel
theorem dX12_hills_279 : decode cX12_hills 279 = .ok (.iload_n 3, 1) := by decide +kernel
theorem dX12_hills_280 : decode cX12_hills 280 = .ok (.iadd, 1) := by decide +kernel
theorem dX12_hills_281 : decode cX12_hills 281 = .ok (.aload_n 0, 1) := by decide +kernel
theorem dX12_hills_282 : decode cX12_hills 282 = .ok (.getfield 91, 3) := by decide +kernel
theorem dX12_hills_285 : decode cX12_hills 285 = .ok (.iload_n 3, 1) := by decide +kernel
theorem dX12_hills_286 : decode cX12_hills 286 = .ok (.iaload, 1) := by decide +kernel
theorem dX12_hills_287 : decode cX12_hills 287 = .ok (.ifCond .lt 12, 3) := by decide +kernel
theorem dX12_hills_290 : decode cX12_hills 290 = .ok (.aload_n 0, 1) := by decide +kernel
theorem dX12_hills_291 : decode cX12_hills 291 = .ok (.getfield 91, 3) := by decide +kernel
theorem dX12_hills_294 : decode cX12_hills 294 = .ok (.iload_n 3, 1) := by decide +kernel
theorem dX12_hills_295 : decode cX12_hills 295 = .ok (.iaload, 1) := by decide +kernel
theorem dX12_hills_296 : decode cX12_hills 296 = .ok (.goto 14, 3) := by decide +kernel
theorem dX12_hills_299 : decode cX12_hills 299 = .ok (.aload_n 0, 1) := by decide +kernel
theorem dX12_hills_300 : decode cX12_hills 300 = .ok (.getfield 85, 3) := by decide +kernel
theorem dX12_hills_303 : decode cX12_hills 303 = .ok (.bipush 19, 2) := by decide +kernel
theorem dX12_hills_305 : decode cX12_hills 305 = .ok (.iload_n 3, 1) := by decide +kernel
theorem dX12_hills_306 : decode cX12_hills 306 = .ok (.iadd, 1) := by decide +kernel
theorem dX12_hills_307 : decode cX12_hills 307 = .ok (.iconst 1, 1) := by decide +kernel
theorem dX12_hills_308 : decode cX12_hills 308 = .ok (.isub, 1) := by decide +kernel
theorem dX12_hills_309 : decode cX12_hills 309 = .ok (.iaload, 1) := by decide +kernel
theorem dX12_hills_310 : decode cX12_hills 310 = .ok (.iastore, 1) := by decide +kernel
theorem dX12_hills_311 : decode cX12_hills 311 = .ok (.iinc 2 1, 3) := by decide +kernel
theorem dX12_hills_314 : decode cX12_hills 314 = .ok (.goto (-54), 3) := by decide +kernel
theorem dX12_hills_317 : decode cX12_hills 317 = .ok (.iinc 1 1, 3) := by decide +kernel
theorem dX12_hills_320 : decode cX12_hills 320 = .ok (.goto (-70), 3) := by decide +kernel
theorem dX12_hills_323 : decode cX12_hills 323 = .ok (.iconst 0, 1) := by decide +kernel
theorem dX12_hills_324 : decode cX12_hills 324 = .ok (.istore_n 1, 1) := by decide +kernel
theorem dX12_hills_325 : decode cX12_hills 325 = .ok (.iload_n 1, 1) := by decide +kernel
theorem dX12_hills_326 : decode cX12_hills 326 = .ok (.sipush 128, 3) := by decide +kernel
theorem dX12_hills_329 : decode cX12_hills 329 = .ok (.if_icmp .ge 47, 3) := by decide +kernel
theorem dX12_hills_332 : decode cX12_hills 332 = .ok (.aload_n 0, 1) := by decide +kernel
theorem dX12_hills_333 : decode cX12_hills 333 = .ok (.getfield 115, 3) := by decide +kernel
theorem dX12_hills_336 : decode cX12_hills 336 = .ok (.iload_n 1, 1) := by decide +kernel
theorem dX12_hills_337 : decode cX12_hills 337 = .ok (.iload_n 1, 1) := by decide +kernel
theorem dX12_hills_338 : decode cX12_hills 338 = .ok (.bipush 120, 2) := by decide +kernel
theorem dX12_hills_340 : decode cX12_hills 340 = .ok (.if_icmp .ge 12, 3) := by decide +kernel
theorem dX12_hills_343 : decode cX12_hills 343 = .ok (.aload_n 0, 1) := by decide +kernel
theorem dX12_hills_344 : decode cX12_hills 344 = .ok (.getfield 88, 3) := by decide +kernel
theorem dX12_hills_347 : decode cX12_hills 347 = .ok (.iload_n 1, 1) := by decide +kernel
theorem dX12_hills_348 : decode cX12_hills 348 = .ok (.iaload, 1) := by decide +kernel
theorem dX12_hills_349 : decode cX12_hills 349 = .ok (.goto 20, 3) := by decide +kernel
theorem dX12_hills_352 : decode cX12_hills 352 = .ok (.iload_n 1, 1) := by decide +kernel
theorem dX12_hills_353 : decode cX12_hills 353 = .ok (.bipush 121, 2) := by decide +kernel
theorem dX12_hills_355 : decode cX12_hills 355 = .ok (.if_icmp .lt 13, 3) := by decide +kernel
theorem dX12_hills_358 : decode cX12_hills 358 = .ok (.iload_n 1, 1) := by decide +kernel
theorem dX12_hills_359 : decode cX12_hills 359 = .ok (.bipush 127, 2) := by decide +kernel
theorem dX12_hills_361 : decode cX12_hills 361 = .ok (.if_icmp .ge 7, 3) := by decide +kernel
theorem dX12_hills_364 : decode cX12_hills 364 = .ok (.iconst (-1), 1) := by decide +kernel
theorem dX12_hills_365 : decode cX12_hills 365 = .ok (.goto 4, 3) := by decide +kernel
theorem dX12_hills_368 : decode cX12_hills 368 = .ok (.iconst 0, 1) := by decide +kernel
theorem dX12_hills_369 : decode cX12_hills 369 = .ok (.iastore, 1) := by decide +kernel
theorem dX12_hills_370 : decode cX12_hills 370 = .ok (.iinc 1 1, 3) := by decide +kernel
theorem dX12_hills_373 : decode cX12_hills 373 = .ok (.goto (-48), 3) := by decide +kernel
theorem dX12_hills_376 : decode cX12_hills 376 = .ok (.aload_n 0, 1) := by decide +kernel
theorem dX12_hills_377 : decode cX12_hills 377 = .ok (.iconst 0, 1) := by decide +kernel
theorem dX12_hills_378 : decode cX12_hills 378 = .ok (.putfield 230, 3) := by decide +kernel
theorem dX12_hills_381 : decode cX12_hills 381 = .ok (.iconst 0, 1) := by decide +kernel
theorem dX12_hills_382 : decode cX12_hills 382 = .ok (.istore_n 1, 1) := by decide +kernel
theorem dX12_hills_383 : decode cX12_hills 383 = .ok (.iload_n 1, 1) := by decide +kernel
theorem dX12_hills_384 : decode cX12_hills 384 = .ok (.iconst 4, 1) := by decide +kernel
theorem dX12_hills_385 : decode cX12_hills 385 = .ok (.if_icmp .ge 16, 3) := by decide +kernel
theorem dX12_hills_388 : decode cX12_hills 388 = .ok (.aload_n 0, 1) := by decide +kernel
theorem dX12_hills_389 : decode cX12_hills 389 = .ok (.getfield 118, 3) := by decide +kernel
theorem dX12_hills_392 : decode cX12_hills 392 = .ok (.iload_n 1, 1) := by decide +kernel
theorem dX12_hills_393 : decode cX12_hills 393 = .ok (.iconst 0, 1) := by decide +kernel
theorem dX12_hills_394 : decode cX12_hills 394 = .ok (.bastore, 1) := by decide +kernel
theorem dX12_hills_395 : decode cX12_hills 395 = .ok (.iinc 1 1, 3) := by decide +kernel
theorem dX12_hills_398 : decode cX12_hills 398 = .ok (.goto (-15), 3) := by decide +kernel
theorem dX12_hills_401 : decode cX12_hills 401 = .ok (.iconst 0, 1) := by decide +kernel
theorem dX12_hills_402 : decode cX12_hills 402 = .ok (.ireturn, 1) := by decide +kernel
theorem dX12_readLine_0 : decode cX12_readLine 0 = .ok (.aload_n 0, 1) := by decide +kernel
theorem dX12_readLine_1 : decode cX12_readLine 1 = .ok (.iconst 1, 1) := by decide +kernel
theorem dX12_readLine_2 : decode cX12_readLine 2 = .ok (.invokevirtual 188, 3) := by decide +kernel
theorem dX12_readLine_5 : decode cX12_readLine 5 = .ok (.ifCond .eq 10, 3) := by decide +kernel
theorem dX12_readLine_8 : decode cX12_readLine 8 = .ok (.aload_n 0, 1) := by decide +kernel
theorem dX12_readLine_9 : decode cX12_readLine 9 = .ok (.invokevirtual 233, 3) := by decide +kernel
theorem dX12_readLine_12 : decode cX12_readLine 12 = .ok (.goto 70, 3) := by decide +kernel
theorem dX12_readLine_15 : decode cX12_readLine 15 = .ok (.aload_n 0, 1) := by decide +kernel
theorem dX12_readLine_16 : decode cX12_readLine 16 = .ok (.iconst 4, 1) := by decide +kernel
theorem dX12_readLine_17 : decode cX12_readLine 17 = .ok (.invokevirtual 188, 3) := by decide +kernel
theorem dX12_readLine_20 : decode cX12_readLine 20 = .ok (.ifCond .eq 10, 3) := by decide +kernel
theorem dX12_readLine_23 : decode cX12_readLine 23 = .ok (.aload_n 0, 1) := by decide +kernel
theorem dX12_readLine_24 : decode cX12_readLine 24 = .ok (.invokevirtual 236, 3) := by decide +kernel
theorem dX12_readLine_27 : decode cX12_readLine 27 = .ok (.goto 55, 3) := by decide +kernel
theorem dX12_readLine_30 : decode cX12_readLine 30 = .ok (.aload_n 0, 1) := by decide +kernel
theorem dX12_readLine_31 : decode cX12_readLine 31 = .ok (.bipush 6, 2) := by decide +kernel
theorem dX12_readLine_33 : decode cX12_readLine 33 = .ok (.invokevirtual 188, 3) := by decide +kernel
theorem dX12_readLine_36 : decode cX12_readLine 36 = .ok (.ifCond .eq 10, 3) := by decide +kernel
theorem dX12_readLine_39 : decode cX12_readLine 39 = .ok (.aload_n 0, 1) := by decide +kernel
theorem dX12_readLine_40 : decode cX12_readLine 40 = .ok (.invokevirtual 239, 3) := by decide +kernel
theorem dX12_readLine_43 : decode cX12_readLine 43 = .ok (.goto 39, 3) := by decide +kernel
theorem dX12_readLine_46 : decode cX12_readLine 46 = .ok (.aload_n 0, 1) := by decide +kernel
theorem dX12_readLine_47 : decode cX12_readLine 47 = .ok (.bipush 7, 2) := by decide +kernel
theorem dX12_readLine_49 : decode cX12_readLine 49 = .ok (.invokevirtual 188, 3) := by decide +kernel
theorem dX12_readLine_52 : decode cX12_readLine 52 = .ok (.ifCond .eq 10, 3) := by decide +kernel
theorem dX12_readLine_55 : decode cX12_readLine 55 = .ok (.aload_n 0, 1) := by decide +kernel
theorem dX12_readLine_56 : decode cX12_readLine 56 = .ok (.invokevirtual 242, 3) := by decide +kernel
theorem dX12_readLine_59 : decode cX12_readLine 59 = .ok (.goto 23, 3) := by decide +kernel
theorem dX12_readLine_62 : decode cX12_readLine 62 = .ok (.aload_n 0, 1) := by decide +kernel
theorem dX12_readLine_63 : decode cX12_readLine 63 = .ok (.bipush 11, 2) := by decide +kernel
theorem dX12_readLine_65 : decode cX12_readLine 65 = .ok (.invokevirtual 188, 3) := by decide +kernel
theorem dX12_readLine_68 : decode cX12_readLine 68 = .ok (.ifCond .eq 10, 3) := by decide +kernel
theorem dX12_readLine_71 : decode cX12_readLine 71 = .ok (.aload_n 0, 1) := by decide +kernel
theorem dX12_readLine_72 : decode cX12_readLine 72 = .ok (.invokevirtual 245, 3) := by decide +kernel
theorem dX12_readLine_75 : decode cX12_readLine 75 = .ok (.goto 7, 3) := by decide +kernel
theorem dX12_readLine_78 : decode cX12_readLine 78 = .ok (.aload_n 0, 1) := by decide +kernel
theorem dX12_readLine_79 : decode cX12_readLine 79 = .ok (.invokevirtual 248, 3) := by decide +kernel
theorem dX12_readLine_82 : decode cX12_readLine 82 = .ok (.return_, 1) := by decide +kernel
theorem dX12_takeCell_0 : decode cX12_takeCell 0 = .ok (.aload_n 0, 1) := by decide +kernel
theorem dX12_takeCell_1 : decode cX12_takeCell 1 = .ok (.iconst 2, 1) := by decide +kernel
theorem dX12_takeCell_2 : decode cX12_takeCell 2 = .ok (.iconst 0, 1) := by decide +kernel
theorem dX12_takeCell_3 : decode cX12_takeCell 3 = .ok (.aload_n 0, 1) := by decide +kernel
theorem dX12_takeCell_4 : decode cX12_takeCell 4 = .ok (.getfield 85, 3) := by decide +kernel
theorem dX12_takeCell_7 : decode cX12_takeCell 7 = .ok (.sipush 180, 3) := by decide +kernel
theorem dX12_takeCell_10 : decode cX12_takeCell 10 = .ok (.iaload, 1) := by decide +kernel
theorem dX12_takeCell_11 : decode cX12_takeCell 11 = .ok (.iconst 1, 1) := by decide +kernel
theorem dX12_takeCell_12 : decode cX12_takeCell 12 = .ok (.isub, 1) := by decide +kernel
theorem dX12_takeCell_13 : decode cX12_takeCell 13 = .ok (.invokevirtual 251, 3) := by decide +kernel
theorem dX12_takeCell_16 : decode cX12_takeCell 16 = .ok (.istore_n 1, 1) := by decide +kernel
theorem dX12_takeCell_17 : decode cX12_takeCell 17 = .ok (.aload_n 0, 1) := by decide +kernel
theorem dX12_takeCell_18 : decode cX12_takeCell 18 = .ok (.iconst 0, 1) := by decide +kernel
theorem dX12_takeCell_19 : decode cX12_takeCell 19 = .ok (.aload_n 0, 1) := by decide +kernel
theorem dX12_takeCell_20 : decode cX12_takeCell 20 = .ok (.getfield 85, 3) := by decide +kernel
theorem dX12_takeCell_23 : decode cX12_takeCell 23 = .ok (.sipush 181, 3) := by decide +kernel
theorem dX12_takeCell_26 : decode cX12_takeCell 26 = .ok (.iaload, 1) := by decide +kernel
theorem dX12_takeCell_27 : decode cX12_takeCell 27 = .ok (.iconst 1, 1) := by decide +kernel
theorem dX12_takeCell_28 : decode cX12_takeCell 28 = .ok (.isub, 1) := by decide +kernel
theorem dX12_takeCell_29 : decode cX12_takeCell 29 = .ok (.invokevirtual 197, 3) := by decide +kernel
theorem dX12_takeCell_32 : decode cX12_takeCell 32 = .ok (.istore_n 2, 1) := by decide +kernel
theorem dX12_takeCell_33 : decode cX12_takeCell 33 = .ok (.bipush 8, 2) := by decide +kernel
theorem dX12_takeCell_35 : decode cX12_takeCell 35 = .ok (.iload_n 2, 1) := by decide +kernel
theorem dX12_takeCell_36 : decode cX12_takeCell 36 = .ok (.imul, 1) := by decide +kernel
theorem dX12_takeCell_37 : decode cX12_takeCell 37 = .ok (.iload_n 1, 1) := by decide +kernel
theorem dX12_takeCell_38 : decode cX12_takeCell 38 = .ok (.iadd, 1) := by decide +kernel
theorem dX12_takeCell_39 : decode cX12_takeCell 39 = .ok (.ireturn, 1) := by decide +kernel
theorem dX12_readName_0 : decode cX12_readName 0 = .ok (.aload_n 0, 1) := by decide +kernel
theorem dX12_readName_1 : decode cX12_readName 1 = .ok (.dup, 1) := by decide +kernel
theorem dX12_readName_2 : decode cX12_readName 2 = .ok (.getfield 176, 3) := by decide +kernel
theorem dX12_readName_5 : decode cX12_readName 5 = .ok (.iconst 1, 1) := by decide +kernel
theorem dX12_readName_6 : decode cX12_readName 6 = .ok (.iadd, 1) := by decide +kernel
theorem dX12_readName_7 : decode cX12_readName 7 = .ok (.putfield 176, 3) := by decide +kernel
theorem dX12_readName_10 : decode cX12_readName 10 = .ok (.aload_n 0, 1) := by decide +kernel
theorem dX12_readName_11 : decode cX12_readName 11 = .ok (.invokevirtual 255, 3) := by decide +kernel
theorem dX12_readName_14 : decode cX12_readName 14 = .ok (.ifCond .ne 11, 3) := by decide +kernel
theorem dX12_readName_17 : decode cX12_readName 17 = .ok (.aload_n 0, 1) := by decide +kernel
theorem dX12_readName_18 : decode cX12_readName 18 = .ok (.iconst 1, 1) := by decide +kernel
theorem dX12_readName_19 : decode cX12_readName 19 = .ok (.invokevirtual 185, 3) := by decide +kernel
theorem dX12_readName_22 : decode cX12_readName 22 = .ok (.goto 15, 3) := by decide +kernel
theorem dX12_readName_25 : decode cX12_readName 25 = .ok (.aload_n 0, 1) := by decide +kernel
theorem dX12_readName_26 : decode cX12_readName 26 = .ok (.invokevirtual 259, 3) := by decide +kernel
theorem dX12_readName_29 : decode cX12_readName 29 = .ok (.ifCond .lt 8, 3) := by decide +kernel
theorem dX12_readName_32 : decode cX12_readName 32 = .ok (.aload_n 0, 1) := by decide +kernel
theorem dX12_readName_33 : decode cX12_readName 33 = .ok (.iconst 3, 1) := by decide +kernel
theorem dX12_readName_34 : decode cX12_readName 34 = .ok (.invokevirtual 185, 3) := by decide +kernel
theorem dX12_readName_37 : decode cX12_readName 37 = .ok (.aload_n 0, 1) := by decide +kernel
theorem dX12_readName_38 : decode cX12_readName 38 = .ok (.getfield 179, 3) := by decide +kernel
theorem dX12_readName_41 : decode cX12_readName 41 = .ok (.ifCond .ne 51, 3) := by decide +kernel
theorem dX12_readName_44 : decode cX12_readName 44 = .ok (.aload_n 0, 1) := by decide +kernel
theorem dX12_readName_45 : decode cX12_readName 45 = .ok (.getfield 100, 3) := by decide +kernel
theorem dX12_readName_48 : decode cX12_readName 48 = .ok (.aload_n 0, 1) := by decide +kernel
theorem dX12_readName_49 : decode cX12_readName 49 = .ok (.getfield 201, 3) := by decide +kernel
theorem dX12_readName_52 : decode cX12_readName 52 = .ok (.aload_n 0, 1) := by decide +kernel
theorem dX12_readName_53 : decode cX12_readName 53 = .ok (.getfield 30, 3) := by decide +kernel
theorem dX12_readName_56 : decode cX12_readName 56 = .ok (.aload_n 0, 1) := by decide +kernel
theorem dX12_readName_57 : decode cX12_readName 57 = .ok (.getfield 176, 3) := by decide +kernel
theorem dX12_readName_60 : decode cX12_readName 60 = .ok (.laload, 1) := by decide +kernel
theorem dX12_readName_61 : decode cX12_readName 61 = .ok (.lastore, 1) := by decide +kernel
theorem dX12_readName_62 : decode cX12_readName 62 = .ok (.aload_n 0, 1) := by decide +kernel
theorem dX12_readName_63 : decode cX12_readName 63 = .ok (.getfield 103, 3) := by decide +kernel
theorem dX12_readName_66 : decode cX12_readName 66 = .ok (.aload_n 0, 1) := by decide +kernel
theorem dX12_readName_67 : decode cX12_readName 67 = .ok (.getfield 201, 3) := by decide +kernel
theorem dX12_readName_70 : decode cX12_readName 70 = .ok (.iload_n 1, 1) := by decide +kernel
theorem dX12_readName_71 : decode cX12_readName 71 = .ok (.iastore, 1) := by decide +kernel
theorem dX12_readName_72 : decode cX12_readName 72 = .ok (.aload_n 0, 1) := by decide +kernel
theorem dX12_readName_73 : decode cX12_readName 73 = .ok (.dup, 1) := by decide +kernel
theorem dX12_readName_74 : decode cX12_readName 74 = .ok (.getfield 201, 3) := by decide +kernel
theorem dX12_readName_77 : decode cX12_readName 77 = .ok (.iconst 1, 1) := by decide +kernel
theorem dX12_readName_78 : decode cX12_readName 78 = .ok (.iadd, 1) := by decide +kernel
theorem dX12_readName_79 : decode cX12_readName 79 = .ok (.putfield 201, 3) := by decide +kernel
theorem dX12_readName_82 : decode cX12_readName 82 = .ok (.aload_n 0, 1) := by decide +kernel
theorem dX12_readName_83 : decode cX12_readName 83 = .ok (.dup, 1) := by decide +kernel
theorem dX12_readName_84 : decode cX12_readName 84 = .ok (.getfield 176, 3) := by decide +kernel
theorem dX12_readName_87 : decode cX12_readName 87 = .ok (.iconst 1, 1) := by decide +kernel
theorem dX12_readName_88 : decode cX12_readName 88 = .ok (.iadd, 1) := by decide +kernel
theorem dX12_readName_89 : decode cX12_readName 89 = .ok (.putfield 176, 3) := by decide +kernel
theorem dX12_readName_92 : decode cX12_readName 92 = .ok (.return_, 1) := by decide +kernel
theorem dX12_readPerson_0 : decode cX12_readPerson 0 = .ok (.aload_n 0, 1) := by decide +kernel
theorem dX12_readPerson_1 : decode cX12_readPerson 1 = .ok (.getfield 85, 3) := by decide +kernel
theorem dX12_readPerson_4 : decode cX12_readPerson 4 = .ok (.sipush 182, 3) := by decide +kernel
theorem dX12_readPerson_7 : decode cX12_readPerson 7 = .ok (.iaload, 1) := by decide +kernel
theorem dX12_readPerson_8 : decode cX12_readPerson 8 = .ok (.istore_n 1, 1) := by decide +kernel
theorem dX12_readPerson_9 : decode cX12_readPerson 9 = .ok (.iload_n 1, 1) := by decide +kernel
theorem dX12_readPerson_10 : decode cX12_readPerson 10 = .ok (.bipush 6, 2) := by decide +kernel
theorem dX12_readPerson_12 : decode cX12_readPerson 12 = .ok (.if_icmp .ne 9, 3) := by decide +kernel
theorem dX12_readPerson_15 : decode cX12_readPerson 15 = .ok (.aload_n 0, 1) := by decide +kernel
theorem dX12_readPerson_16 : decode cX12_readPerson 16 = .ok (.iconst 5, 1) := by decide +kernel
theorem dX12_readPerson_17 : decode cX12_readPerson 17 = .ok (.invokevirtual 185, 3) := by decide +kernel
theorem dX12_readPerson_20 : decode cX12_readPerson 20 = .ok (.return_, 1) := by decide +kernel
theorem dX12_readPerson_21 : decode cX12_readPerson 21 = .ok (.aload_n 0, 1) := by decide +kernel
theorem dX12_readPerson_22 : decode cX12_readPerson 22 = .ok (.iload_n 1, 1) := by decide +kernel
theorem dX12_readPerson_23 : decode cX12_readPerson 23 = .ok (.invokevirtual 262, 3) := by decide +kernel
theorem dX12_readPerson_26 : decode cX12_readPerson 26 = .ok (.iconst (-1), 1) := by decide +kernel
theorem dX12_readPerson_27 : decode cX12_readPerson 27 = .ok (.istore_n 2, 1) := by decide +kernel
theorem dX12_readPerson_28 : decode cX12_readPerson 28 = .ok (.iconst 0, 1) := by decide +kernel
theorem dX12_readPerson_29 : decode cX12_readPerson 29 = .ok (.istore_n 3, 1) := by decide +kernel
theorem dX12_readPerson_30 : decode cX12_readPerson 30 = .ok (.iload_n 3, 1) := by decide +kernel
theorem dX12_readPerson_31 : decode cX12_readPerson 31 = .ok (.iconst 5, 1) := by decide +kernel
theorem dX12_readPerson_32 : decode cX12_readPerson 32 = .ok (.if_icmp .ge 26, 3) := by decide +kernel
theorem dX12_readPerson_35 : decode cX12_readPerson 35 = .ok (.aload_n 0, 1) := by decide +kernel
theorem dX12_readPerson_36 : decode cX12_readPerson 36 = .ok (.bipush 12, 2) := by decide +kernel
theorem dX12_readPerson_38 : decode cX12_readPerson 38 = .ok (.iload_n 3, 1) := by decide +kernel
theorem dX12_readPerson_39 : decode cX12_readPerson 39 = .ok (.iadd, 1) := by decide +kernel
theorem dX12_readPerson_40 : decode cX12_readPerson 40 = .ok (.invokevirtual 188, 3) := by decide +kernel
theorem dX12_readPerson_43 : decode cX12_readPerson 43 = .ok (.ifCond .eq 7, 3) := by decide +kernel
theorem dX12_readPerson_46 : decode cX12_readPerson 46 = .ok (.iload_n 3, 1) := by decide +kernel
theorem dX12_readPerson_47 : decode cX12_readPerson 47 = .ok (.goto 4, 3) := by decide +kernel
theorem dX12_readPerson_50 : decode cX12_readPerson 50 = .ok (.iload_n 2, 1) := by decide +kernel
theorem dX12_readPerson_51 : decode cX12_readPerson 51 = .ok (.istore_n 2, 1) := by decide +kernel
theorem dX12_readPerson_52 : decode cX12_readPerson 52 = .ok (.iinc 3 1, 3) := by decide +kernel
theorem dX12_readPerson_55 : decode cX12_readPerson 55 = .ok (.goto (-25), 3) := by decide +kernel
theorem dX12_readPerson_58 : decode cX12_readPerson 58 = .ok (.iload_n 2, 1) := by decide +kernel
theorem dX12_readPerson_59 : decode cX12_readPerson 59 = .ok (.ifCond .ge 9, 3) := by decide +kernel
theorem dX12_readPerson_62 : decode cX12_readPerson 62 = .ok (.aload_n 0, 1) := by decide +kernel
theorem dX12_readPerson_63 : decode cX12_readPerson 63 = .ok (.iconst 1, 1) := by decide +kernel
theorem dX12_readPerson_64 : decode cX12_readPerson 64 = .ok (.invokevirtual 185, 3) := by decide +kernel
theorem dX12_readPerson_67 : decode cX12_readPerson 67 = .ok (.return_, 1) := by decide +kernel
theorem dX12_readPerson_68 : decode cX12_readPerson 68 = .ok (.aload_n 0, 1) := by decide +kernel
theorem dX12_readPerson_69 : decode cX12_readPerson 69 = .ok (.dup, 1) := by decide +kernel
theorem dX12_readPerson_70 : decode cX12_readPerson 70 = .ok (.getfield 176, 3) := by decide +kernel
theorem dX12_readPerson_73 : decode cX12_readPerson 73 = .ok (.iconst 1, 1) := by decide +kernel
theorem dX12_readPerson_74 : decode cX12_readPerson 74 = .ok (.iadd, 1) := by decide +kernel
theorem dX12_readPerson_75 : decode cX12_readPerson 75 = .ok (.putfield 176, 3) := by decide +kernel
theorem dX12_readPerson_78 : decode cX12_readPerson 78 = .ok (.aload_n 0, 1) := by decide +kernel
theorem dX12_readPerson_79 : decode cX12_readPerson 79 = .ok (.getfield 85, 3) := by decide +kernel
theorem dX12_readPerson_82 : decode cX12_readPerson 82 = .ok (.sipush 187, 3) := by decide +kernel
theorem dX12_readPerson_85 : decode cX12_readPerson 85 = .ok (.iconst 2, 1) := by decide +kernel
theorem dX12_readPerson_86 : decode cX12_readPerson 86 = .ok (.iload_n 1, 1) := by decide +kernel
theorem dX12_readPerson_87 : decode cX12_readPerson 87 = .ok (.imul, 1) := by decide +kernel
theorem dX12_readPerson_88 : decode cX12_readPerson 88 = .ok (.iadd, 1) := by decide +kernel
theorem dX12_readPerson_89 : decode cX12_readPerson 89 = .ok (.iload_n 2, 1) := by decide +kernel
theorem dX12_readPerson_90 : decode cX12_readPerson 90 = .ok (.iastore, 1) := by decide +kernel
theorem dX12_readPerson_91 : decode cX12_readPerson 91 = .ok (.aload_n 0, 1) := by decide +kernel
theorem dX12_readPerson_92 : decode cX12_readPerson 92 = .ok (.getfield 91, 3) := by decide +kernel
theorem dX12_readPerson_95 : decode cX12_readPerson 95 = .ok (.bipush 24, 2) := by decide +kernel
theorem dX12_readPerson_97 : decode cX12_readPerson 97 = .ok (.iload_n 1, 1) := by decide +kernel
theorem dX12_readPerson_98 : decode cX12_readPerson 98 = .ok (.imul, 1) := by decide +kernel
theorem dX12_readPerson_99 : decode cX12_readPerson 99 = .ok (.aload_n 0, 1) := by decide +kernel
theorem dX12_readPerson_100 : decode cX12_readPerson 100 = .ok (.invokevirtual 265, 3) := by decide +kernel
theorem dX12_readPerson_103 : decode cX12_readPerson 103 = .ok (.iastore, 1) := by decide +kernel
theorem dX12_readPerson_104 : decode cX12_readPerson 104 = .ok (.aload_n 0, 1) := by decide +kernel
theorem dX12_readPerson_105 : decode cX12_readPerson 105 = .ok (.getfield 85, 3) := by decide +kernel
theorem dX12_readPerson_108 : decode cX12_readPerson 108 = .ok (.sipush 187, 3) := by decide +kernel
theorem dX12_readPerson_111 : decode cX12_readPerson 111 = .ok (.iconst 2, 1) := by decide +kernel
theorem dX12_readPerson_112 : decode cX12_readPerson 112 = .ok (.iload_n 1, 1) := by decide +kernel
theorem dX12_readPerson_113 : decode cX12_readPerson 113 = .ok (.imul, 1) := by decide +kernel
theorem dX12_readPerson_114 : decode cX12_readPerson 114 = .ok (.iadd, 1) := by decide +kernel
theorem dX12_readPerson_115 : decode cX12_readPerson 115 = .ok (.iconst 1, 1) := by decide +kernel
theorem dX12_readPerson_116 : decode cX12_readPerson 116 = .ok (.iadd, 1) := by decide +kernel
theorem dX12_readPerson_117 : decode cX12_readPerson 117 = .ok (.aload_n 0, 1) := by decide +kernel
theorem dX12_readPerson_118 : decode cX12_readPerson 118 = .ok (.iconst 3, 1) := by decide +kernel
theorem dX12_readPerson_119 : decode cX12_readPerson 119 = .ok (.iconst 0, 1) := by decide +kernel
theorem dX12_readPerson_120 : decode cX12_readPerson 120 = .ok (.sipush 9999, 3) := by decide +kernel
theorem dX12_readPerson_123 : decode cX12_readPerson 123 = .ok (.invokevirtual 251, 3) := by decide +kernel
theorem dX12_readPerson_126 : decode cX12_readPerson 126 = .ok (.iastore, 1) := by decide +kernel
theorem dX12_readPerson_127 : decode cX12_readPerson 127 = .ok (.aload_n 0, 1) := by decide +kernel
theorem dX12_readPerson_128 : decode cX12_readPerson 128 = .ok (.getfield 85, 3) := by decide +kernel
theorem dX12_readPerson_131 : decode cX12_readPerson 131 = .ok (.sipush 182, 3) := by decide +kernel
theorem dX12_readPerson_134 : decode cX12_readPerson 134 = .ok (.dup2, 1) := by decide +kernel
theorem dX12_readPerson_135 : decode cX12_readPerson 135 = .ok (.iaload, 1) := by decide +kernel
theorem dX12_readPerson_136 : decode cX12_readPerson 136 = .ok (.iconst 1, 1) := by decide +kernel
theorem dX12_readPerson_137 : decode cX12_readPerson 137 = .ok (.iadd, 1) := by decide +kernel
theorem dX12_readPerson_138 : decode cX12_readPerson 138 = .ok (.iastore, 1) := by decide +kernel
theorem dX12_readPerson_139 : decode cX12_readPerson 139 = .ok (.return_, 1) := by decide +kernel
theorem dX12_takeTold_0 : decode cX12_takeTold 0 = .ok (.iconst (-1), 1) := by decide +kernel
theorem dX12_takeTold_1 : decode cX12_takeTold 1 = .ok (.istore_n 2, 1) := by decide +kernel
theorem dX12_takeTold_2 : decode cX12_takeTold 2 = .ok (.aload_n 0, 1) := by decide +kernel
theorem dX12_takeTold_3 : decode cX12_takeTold 3 = .ok (.invokevirtual 255, 3) := by decide +kernel
theorem dX12_takeTold_6 : decode cX12_takeTold 6 = .ok (.ifCond .ne 8, 3) := by decide +kernel
theorem dX12_takeTold_9 : decode cX12_takeTold 9 = .ok (.aload_n 0, 1) := by decide +kernel
theorem dX12_takeTold_10 : decode cX12_takeTold 10 = .ok (.iconst 1, 1) := by decide +kernel
theorem dX12_takeTold_11 : decode cX12_takeTold 11 = .ok (.invokevirtual 185, 3) := by decide +kernel
theorem dX12_takeTold_14 : decode cX12_takeTold 14 = .ok (.aload_n 0, 1) := by decide +kernel
theorem dX12_takeTold_15 : decode cX12_takeTold 15 = .ok (.getfield 179, 3) := by decide +kernel
theorem dX12_takeTold_18 : decode cX12_takeTold 18 = .ok (.ifCond .ne 32, 3) := by decide +kernel
theorem dX12_takeTold_21 : decode cX12_takeTold 21 = .ok (.aload_n 0, 1) := by decide +kernel
theorem dX12_takeTold_22 : decode cX12_takeTold 22 = .ok (.invokevirtual 259, 3) := by decide +kernel
theorem dX12_takeTold_25 : decode cX12_takeTold 25 = .ok (.istore_n 2, 1) := by decide +kernel
theorem dX12_takeTold_26 : decode cX12_takeTold 26 = .ok (.iload_n 2, 1) := by decide +kernel
theorem dX12_takeTold_27 : decode cX12_takeTold 27 = .ok (.ifCond .lt 18, 3) := by decide +kernel
theorem dX12_takeTold_30 : decode cX12_takeTold 30 = .ok (.iload_n 2, 1) := by decide +kernel
theorem dX12_takeTold_31 : decode cX12_takeTold 31 = .ok (.bipush 6, 2) := by decide +kernel
theorem dX12_takeTold_33 : decode cX12_takeTold 33 = .ok (.if_icmp .lt 7, 3) := by decide +kernel
theorem dX12_takeTold_36 : decode cX12_takeTold 36 = .ok (.iconst 1, 1) := by decide +kernel
theorem dX12_takeTold_37 : decode cX12_takeTold 37 = .ok (.goto 4, 3) := by decide +kernel
theorem dX12_takeTold_40 : decode cX12_takeTold 40 = .ok (.iconst 0, 1) := by decide +kernel
theorem dX12_takeTold_41 : decode cX12_takeTold 41 = .ok (.iload_n 1, 1) := by decide +kernel
theorem dX12_takeTold_42 : decode cX12_takeTold 42 = .ok (.if_icmp .eq 8, 3) := by decide +kernel
theorem dX12_takeTold_45 : decode cX12_takeTold 45 = .ok (.aload_n 0, 1) := by decide +kernel
theorem dX12_takeTold_46 : decode cX12_takeTold 46 = .ok (.iconst 2, 1) := by decide +kernel
theorem dX12_takeTold_47 : decode cX12_takeTold 47 = .ok (.invokevirtual 185, 3) := by decide +kernel
theorem dX12_takeTold_50 : decode cX12_takeTold 50 = .ok (.aload_n 0, 1) := by decide +kernel
theorem dX12_takeTold_51 : decode cX12_takeTold 51 = .ok (.dup, 1) := by decide +kernel
theorem dX12_takeTold_52 : decode cX12_takeTold 52 = .ok (.getfield 176, 3) := by decide +kernel
theorem dX12_takeTold_55 : decode cX12_takeTold 55 = .ok (.aload_n 0, 1) := by decide +kernel
theorem dX12_takeTold_56 : decode cX12_takeTold 56 = .ok (.getfield 179, 3) := by decide +kernel
theorem dX12_takeTold_59 : decode cX12_takeTold 59 = .ok (.ifCond .le 7, 3) := by decide +kernel
theorem dX12_takeTold_62 : decode cX12_takeTold 62 = .ok (.iconst 0, 1) := by decide +kernel
theorem dX12_takeTold_63 : decode cX12_takeTold 63 = .ok (.goto 4, 3) := by decide +kernel
theorem dX12_takeTold_66 : decode cX12_takeTold 66 = .ok (.iconst 1, 1) := by decide +kernel
theorem dX12_takeTold_67 : decode cX12_takeTold 67 = .ok (.iadd, 1) := by decide +kernel
theorem dX12_takeTold_68 : decode cX12_takeTold 68 = .ok (.putfield 176, 3) := by decide +kernel
theorem dX12_takeTold_71 : decode cX12_takeTold 71 = .ok (.iload_n 1, 1) := by decide +kernel
theorem dX12_takeTold_72 : decode cX12_takeTold 72 = .ok (.ifCond .eq 10, 3) := by decide +kernel
theorem dX12_takeTold_75 : decode cX12_takeTold 75 = .ok (.iload_n 2, 1) := by decide +kernel
theorem dX12_takeTold_76 : decode cX12_takeTold 76 = .ok (.bipush 6, 2) := by decide +kernel
theorem dX12_takeTold_78 : decode cX12_takeTold 78 = .ok (.isub, 1) := by decide +kernel
theorem dX12_takeTold_79 : decode cX12_takeTold 79 = .ok (.goto 4, 3) := by decide +kernel
theorem dX12_takeTold_82 : decode cX12_takeTold 82 = .ok (.iload_n 2, 1) := by decide +kernel
theorem dX12_takeTold_83 : decode cX12_takeTold 83 = .ok (.ireturn, 1) := by decide +kernel
theorem dX12_takeHour_0 : decode cX12_takeHour 0 = .ok (.aload_n 0, 1) := by decide +kernel
theorem dX12_takeHour_1 : decode cX12_takeHour 1 = .ok (.iconst 5, 1) := by decide +kernel
theorem dX12_takeHour_2 : decode cX12_takeHour 2 = .ok (.invokevirtual 194, 3) := by decide +kernel
theorem dX12_takeHour_5 : decode cX12_takeHour 5 = .ok (.aload_n 0, 1) := by decide +kernel
theorem dX12_takeHour_6 : decode cX12_takeHour 6 = .ok (.iload_n 1, 1) := by decide +kernel
theorem dX12_takeHour_7 : decode cX12_takeHour 7 = .ok (.bipush 23, 2) := by decide +kernel
theorem dX12_takeHour_9 : decode cX12_takeHour 9 = .ok (.invokevirtual 197, 3) := by decide +kernel
theorem dX12_takeHour_12 : decode cX12_takeHour 12 = .ok (.istore 5, 2) := by decide +kernel
theorem dX12_takeHour_14 : decode cX12_takeHour 14 = .ok (.aload_n 0, 1) := by decide +kernel
theorem dX12_takeHour_15 : decode cX12_takeHour 15 = .ok (.getfield 179, 3) := by decide +kernel
theorem dX12_takeHour_18 : decode cX12_takeHour 18 = .ok (.ifCond .ne 29, 3) := by decide +kernel
theorem dX12_takeHour_21 : decode cX12_takeHour 21 = .ok (.aload_n 2, 1) := by decide +kernel
theorem dX12_takeHour_22 : decode cX12_takeHour 22 = .ok (.iload_n 3, 1) := by decide +kernel
theorem dX12_takeHour_23 : decode cX12_takeHour 23 = .ok (.iload 5, 2) := by decide +kernel
theorem dX12_takeHour_25 : decode cX12_takeHour 25 = .ok (.iadd, 1) := by decide +kernel
theorem dX12_takeHour_26 : decode cX12_takeHour 26 = .ok (.iaload, 1) := by decide +kernel
theorem dX12_takeHour_27 : decode cX12_takeHour 27 = .ok (.iload 4, 2) := by decide +kernel
theorem dX12_takeHour_29 : decode cX12_takeHour 29 = .ok (.if_icmp .eq 18, 3) := by decide +kernel
theorem dX12_takeHour_32 : decode cX12_takeHour 32 = .ok (.aload_n 0, 1) := by decide +kernel
theorem dX12_takeHour_33 : decode cX12_takeHour 33 = .ok (.dup, 1) := by decide +kernel
theorem dX12_takeHour_34 : decode cX12_takeHour 34 = .ok (.getfield 176, 3) := by decide +kernel
theorem dX12_takeHour_37 : decode cX12_takeHour 37 = .ok (.iconst 1, 1) := by decide +kernel
theorem dX12_takeHour_38 : decode cX12_takeHour 38 = .ok (.isub, 1) := by decide +kernel
theorem dX12_takeHour_39 : decode cX12_takeHour 39 = .ok (.putfield 176, 3) := by decide +kernel
theorem dX12_takeHour_42 : decode cX12_takeHour 42 = .ok (.aload_n 0, 1) := by decide +kernel
theorem dX12_takeHour_43 : decode cX12_takeHour 43 = .ok (.iconst 3, 1) := by decide +kernel
theorem dX12_takeHour_44 : decode cX12_takeHour 44 = .ok (.invokevirtual 185, 3) := by decide +kernel
theorem dX12_takeHour_47 : decode cX12_takeHour 47 = .ok (.iload 5, 2) := by decide +kernel
theorem dX12_takeHour_49 : decode cX12_takeHour 49 = .ok (.ireturn, 1) := by decide +kernel
theorem dX12_readGo_0 : decode cX12_readGo 0 = .ok (.aload_n 0, 1) := by decide +kernel
theorem dX12_readGo_1 : decode cX12_readGo 1 = .ok (.getfield 210, 3) := by decide +kernel
theorem dX12_readGo_4 : decode cX12_readGo 4 = .ok (.bipush 20, 2) := by decide +kernel
theorem dX12_readGo_6 : decode cX12_readGo 6 = .ok (.if_icmp .ne 9, 3) := by decide +kernel
theorem dX12_readGo_9 : decode cX12_readGo 9 = .ok (.aload_n 0, 1) := by decide +kernel
theorem dX12_readGo_10 : decode cX12_readGo 10 = .ok (.iconst 5, 1) := by decide +kernel
theorem dX12_readGo_11 : decode cX12_readGo 11 = .ok (.invokevirtual 185, 3) := by decide +kernel
theorem dX12_readGo_14 : decode cX12_readGo 14 = .ok (.return_, 1) := by decide +kernel
theorem dX12_readGo_15 : decode cX12_readGo 15 = .ok (.aload_n 0, 1) := by decide +kernel
theorem dX12_readGo_16 : decode cX12_readGo 16 = .ok (.dup, 1) := by decide +kernel
theorem dX12_readGo_17 : decode cX12_readGo 17 = .ok (.getfield 176, 3) := by decide +kernel
theorem dX12_readGo_20 : decode cX12_readGo 20 = .ok (.iconst 1, 1) := by decide +kernel
theorem dX12_readGo_21 : decode cX12_readGo 21 = .ok (.iadd, 1) := by decide +kernel
theorem dX12_readGo_22 : decode cX12_readGo 22 = .ok (.putfield 176, 3) := by decide +kernel
theorem dX12_readGo_25 : decode cX12_readGo 25 = .ok (.aload_n 0, 1) := by decide +kernel
theorem dX12_readGo_26 : decode cX12_readGo 26 = .ok (.iconst 0, 1) := by decide +kernel
theorem dX12_readGo_27 : decode cX12_readGo 27 = .ok (.invokevirtual 268, 3) := by decide +kernel
theorem dX12_readGo_30 : decode cX12_readGo 30 = .ok (.istore_n 1, 1) := by decide +kernel
theorem dX12_readGo_31 : decode cX12_readGo 31 = .ok (.aload_n 0, 1) := by decide +kernel
theorem dX12_readGo_32 : decode cX12_readGo 32 = .ok (.getfield 179, 3) := by decide +kernel
theorem dX12_readGo_35 : decode cX12_readGo 35 = .ok (.ifCond .le 7, 3) := by decide +kernel
theorem dX12_readGo_38 : decode cX12_readGo 38 = .ok (.iconst 0, 1) := by decide +kernel
theorem dX12_readGo_39 : decode cX12_readGo 39 = .ok (.goto 17, 3) := by decide +kernel
theorem dX12_readGo_42 : decode cX12_readGo 42 = .ok (.aload_n 0, 1) := by decide +kernel
theorem dX12_readGo_43 : decode cX12_readGo 43 = .ok (.iconst 1, 1) := by decide +kernel
theorem dX12_readGo_44 : decode cX12_readGo 44 = .ok (.aload_n 0, 1) := by decide +kernel
theorem dX12_readGo_45 : decode cX12_readGo 45 = .ok (.getfield 91, 3) := by decide +kernel
theorem dX12_readGo_48 : decode cX12_readGo 48 = .ok (.bipush 24, 2) := by decide +kernel
theorem dX12_readGo_50 : decode cX12_readGo 50 = .ok (.iload_n 1, 1) := by decide +kernel
theorem dX12_readGo_51 : decode cX12_readGo 51 = .ok (.imul, 1) := by decide +kernel
theorem dX12_readGo_52 : decode cX12_readGo 52 = .ok (.iconst (-1), 1) := by decide +kernel
theorem dX12_readGo_53 : decode cX12_readGo 53 = .ok (.invokevirtual 272, 3) := by decide +kernel
theorem dX12_readGo_56 : decode cX12_readGo 56 = .ok (.istore_n 2, 1) := by decide +kernel
theorem dX12_readGo_57 : decode cX12_readGo 57 = .ok (.aload_n 0, 1) := by decide +kernel
theorem dX12_readGo_58 : decode cX12_readGo 58 = .ok (.getfield 179, 3) := by decide +kernel
theorem dX12_readGo_61 : decode cX12_readGo 61 = .ok (.ifCond .le 7, 3) := by decide +kernel
theorem dX12_readGo_64 : decode cX12_readGo 64 = .ok (.iconst 0, 1) := by decide +kernel
theorem dX12_readGo_65 : decode cX12_readGo 65 = .ok (.goto 7, 3) := by decide +kernel
theorem dX12_readGo_68 : decode cX12_readGo 68 = .ok (.aload_n 0, 1) := by decide +kernel
theorem dX12_readGo_69 : decode cX12_readGo 69 = .ok (.invokevirtual 265, 3) := by decide +kernel
theorem dX12_readGo_72 : decode cX12_readGo 72 = .ok (.istore_n 3, 1) := by decide +kernel
theorem dX12_readGo_73 : decode cX12_readGo 73 = .ok (.aload_n 0, 1) := by decide +kernel
theorem dX12_readGo_74 : decode cX12_readGo 74 = .ok (.getfield 179, 3) := by decide +kernel
theorem dX12_readGo_77 : decode cX12_readGo 77 = .ok (.ifCond .ne 25, 3) := by decide +kernel
theorem dX12_readGo_80 : decode cX12_readGo 80 = .ok (.aload_n 0, 1) := by decide +kernel
theorem dX12_readGo_81 : decode cX12_readGo 81 = .ok (.getfield 91, 3) := by decide +kernel
theorem dX12_readGo_84 : decode cX12_readGo 84 = .ok (.bipush 24, 2) := by decide +kernel
theorem dX12_readGo_86 : decode cX12_readGo 86 = .ok (.iload_n 1, 1) := by decide +kernel
theorem dX12_readGo_87 : decode cX12_readGo 87 = .ok (.imul, 1) := by decide +kernel
theorem dX12_readGo_88 : decode cX12_readGo 88 = .ok (.iload_n 2, 1) := by decide +kernel
theorem dX12_readGo_89 : decode cX12_readGo 89 = .ok (.iadd, 1) := by decide +kernel
theorem dX12_readGo_90 : decode cX12_readGo 90 = .ok (.iload_n 3, 1) := by decide +kernel
theorem dX12_readGo_91 : decode cX12_readGo 91 = .ok (.iastore, 1) := by decide +kernel
theorem dX12_readGo_92 : decode cX12_readGo 92 = .ok (.aload_n 0, 1) := by decide +kernel
theorem dX12_readGo_93 : decode cX12_readGo 93 = .ok (.dup, 1) := by decide +kernel
theorem dX12_readGo_94 : decode cX12_readGo 94 = .ok (.getfield 210, 3) := by decide +kernel
theorem dX12_readGo_97 : decode cX12_readGo 97 = .ok (.iconst 1, 1) := by decide +kernel
theorem dX12_readGo_98 : decode cX12_readGo 98 = .ok (.iadd, 1) := by decide +kernel
theorem dX12_readGo_99 : decode cX12_readGo 99 = .ok (.putfield 210, 3) := by decide +kernel
theorem dX12_readGo_102 : decode cX12_readGo 102 = .ok (.return_, 1) := by decide +kernel
theorem dX12_readBird_0 : decode cX12_readBird 0 = .ok (.aload_n 0, 1) := by decide +kernel
theorem dX12_readBird_1 : decode cX12_readBird 1 = .ok (.getfield 85, 3) := by decide +kernel
theorem dX12_readBird_4 : decode cX12_readBird 4 = .ok (.sipush 183, 3) := by decide +kernel
theorem dX12_readBird_7 : decode cX12_readBird 7 = .ok (.iaload, 1) := by decide +kernel
theorem dX12_readBird_8 : decode cX12_readBird 8 = .ok (.istore_n 1, 1) := by decide +kernel
theorem dX12_readBird_9 : decode cX12_readBird 9 = .ok (.iload_n 1, 1) := by decide +kernel
theorem dX12_readBird_10 : decode cX12_readBird 10 = .ok (.iconst 5, 1) := by decide +kernel
theorem dX12_readBird_11 : decode cX12_readBird 11 = .ok (.if_icmp .ne 9, 3) := by decide +kernel
theorem dX12_readBird_14 : decode cX12_readBird 14 = .ok (.aload_n 0, 1) := by decide +kernel
theorem dX12_readBird_15 : decode cX12_readBird 15 = .ok (.iconst 5, 1) := by decide +kernel
theorem dX12_readBird_16 : decode cX12_readBird 16 = .ok (.invokevirtual 185, 3) := by decide +kernel
theorem dX12_readBird_19 : decode cX12_readBird 19 = .ok (.return_, 1) := by decide +kernel
theorem dX12_readBird_20 : decode cX12_readBird 20 = .ok (.aload_n 0, 1) := by decide +kernel
theorem dX12_readBird_21 : decode cX12_readBird 21 = .ok (.bipush 6, 2) := by decide +kernel
theorem dX12_readBird_23 : decode cX12_readBird 23 = .ok (.iload_n 1, 1) := by decide +kernel
theorem dX12_readBird_24 : decode cX12_readBird 24 = .ok (.iadd, 1) := by decide +kernel
theorem dX12_readBird_25 : decode cX12_readBird 25 = .ok (.invokevirtual 262, 3) := by decide +kernel
theorem dX12_readBird_28 : decode cX12_readBird 28 = .ok (.aload_n 0, 1) := by decide +kernel
theorem dX12_readBird_29 : decode cX12_readBird 29 = .ok (.getfield 85, 3) := by decide +kernel
theorem dX12_readBird_32 : decode cX12_readBird 32 = .ok (.sipush 343, 3) := by decide +kernel
theorem dX12_readBird_35 : decode cX12_readBird 35 = .ok (.iload_n 1, 1) := by decide +kernel
theorem dX12_readBird_36 : decode cX12_readBird 36 = .ok (.iadd, 1) := by decide +kernel
theorem dX12_readBird_37 : decode cX12_readBird 37 = .ok (.aload_n 0, 1) := by decide +kernel
theorem dX12_readBird_38 : decode cX12_readBird 38 = .ok (.invokevirtual 265, 3) := by decide +kernel
theorem dX12_readBird_41 : decode cX12_readBird 41 = .ok (.iastore, 1) := by decide +kernel
theorem dX12_readBird_42 : decode cX12_readBird 42 = .ok (.aload_n 0, 1) := by decide +kernel
theorem dX12_readBird_43 : decode cX12_readBird 43 = .ok (.getfield 85, 3) := by decide +kernel
theorem dX12_readBird_46 : decode cX12_readBird 46 = .ok (.sipush 183, 3) := by decide +kernel
theorem dX12_readBird_49 : decode cX12_readBird 49 = .ok (.dup2, 1) := by decide +kernel
theorem dX12_readBird_50 : decode cX12_readBird 50 = .ok (.iaload, 1) := by decide +kernel
theorem dX12_readBird_51 : decode cX12_readBird 51 = .ok (.iconst 1, 1) := by decide +kernel
theorem dX12_readBird_52 : decode cX12_readBird 52 = .ok (.iadd, 1) := by decide +kernel
theorem dX12_readBird_53 : decode cX12_readBird 53 = .ok (.iastore, 1) := by decide +kernel
theorem dX12_readBird_54 : decode cX12_readBird 54 = .ok (.return_, 1) := by decide +kernel
theorem dX12_readCall_0 : decode cX12_readCall 0 = .ok (.aload_n 0, 1) := by decide +kernel
theorem dX12_readCall_1 : decode cX12_readCall 1 = .ok (.getfield 213, 3) := by decide +kernel
theorem dX12_readCall_4 : decode cX12_readCall 4 = .ok (.bipush 30, 2) := by decide +kernel
theorem dX12_readCall_6 : decode cX12_readCall 6 = .ok (.if_icmp .ne 9, 3) := by decide +kernel
theorem dX12_readCall_9 : decode cX12_readCall 9 = .ok (.aload_n 0, 1) := by decide +kernel
theorem dX12_readCall_10 : decode cX12_readCall 10 = .ok (.iconst 5, 1) := by decide +kernel
theorem dX12_readCall_11 : decode cX12_readCall 11 = .ok (.invokevirtual 185, 3) := by decide +kernel
theorem dX12_readCall_14 : decode cX12_readCall 14 = .ok (.return_, 1) := by decide +kernel
theorem dX12_readCall_15 : decode cX12_readCall 15 = .ok (.aload_n 0, 1) := by decide +kernel
theorem dX12_readCall_16 : decode cX12_readCall 16 = .ok (.dup, 1) := by decide +kernel
theorem dX12_readCall_17 : decode cX12_readCall 17 = .ok (.getfield 176, 3) := by decide +kernel
theorem dX12_readCall_20 : decode cX12_readCall 20 = .ok (.iconst 1, 1) := by decide +kernel
theorem dX12_readCall_21 : decode cX12_readCall 21 = .ok (.iadd, 1) := by decide +kernel
theorem dX12_readCall_22 : decode cX12_readCall 22 = .ok (.putfield 176, 3) := by decide +kernel
theorem dX12_readCall_25 : decode cX12_readCall 25 = .ok (.aload_n 0, 1) := by decide +kernel
theorem dX12_readCall_26 : decode cX12_readCall 26 = .ok (.iconst 1, 1) := by decide +kernel
theorem dX12_readCall_27 : decode cX12_readCall 27 = .ok (.invokevirtual 268, 3) := by decide +kernel
theorem dX12_readCall_30 : decode cX12_readCall 30 = .ok (.istore_n 1, 1) := by decide +kernel
theorem dX12_readCall_31 : decode cX12_readCall 31 = .ok (.aload_n 0, 1) := by decide +kernel
theorem dX12_readCall_32 : decode cX12_readCall 32 = .ok (.getfield 179, 3) := by decide +kernel
theorem dX12_readCall_35 : decode cX12_readCall 35 = .ok (.ifCond .le 7, 3) := by decide +kernel
theorem dX12_readCall_38 : decode cX12_readCall 38 = .ok (.iconst 0, 1) := by decide +kernel
theorem dX12_readCall_39 : decode cX12_readCall 39 = .ok (.goto 17, 3) := by decide +kernel
theorem dX12_readCall_42 : decode cX12_readCall 42 = .ok (.aload_n 0, 1) := by decide +kernel
theorem dX12_readCall_43 : decode cX12_readCall 43 = .ok (.iconst 0, 1) := by decide +kernel
theorem dX12_readCall_44 : decode cX12_readCall 44 = .ok (.aload_n 0, 1) := by decide +kernel
theorem dX12_readCall_45 : decode cX12_readCall 45 = .ok (.getfield 88, 3) := by decide +kernel
theorem dX12_readCall_48 : decode cX12_readCall 48 = .ok (.bipush 24, 2) := by decide +kernel
theorem dX12_readCall_50 : decode cX12_readCall 50 = .ok (.iload_n 1, 1) := by decide +kernel
theorem dX12_readCall_51 : decode cX12_readCall 51 = .ok (.imul, 1) := by decide +kernel
theorem dX12_readCall_52 : decode cX12_readCall 52 = .ok (.iconst 0, 1) := by decide +kernel
theorem dX12_readCall_53 : decode cX12_readCall 53 = .ok (.invokevirtual 272, 3) := by decide +kernel
theorem dX12_readCall_56 : decode cX12_readCall 56 = .ok (.istore_n 2, 1) := by decide +kernel
theorem dX12_readCall_57 : decode cX12_readCall 57 = .ok (.aload_n 0, 1) := by decide +kernel
theorem dX12_readCall_58 : decode cX12_readCall 58 = .ok (.bipush 8, 2) := by decide +kernel
theorem dX12_readCall_60 : decode cX12_readCall 60 = .ok (.iconst 1, 1) := by decide +kernel
theorem dX12_readCall_61 : decode cX12_readCall 61 = .ok (.bipush 9, 2) := by decide +kernel
theorem dX12_readCall_63 : decode cX12_readCall 63 = .ok (.invokevirtual 251, 3) := by decide +kernel
theorem dX12_readCall_66 : decode cX12_readCall 66 = .ok (.istore_n 3, 1) := by decide +kernel
theorem dX12_readCall_67 : decode cX12_readCall 67 = .ok (.aload_n 0, 1) := by decide +kernel
theorem dX12_readCall_68 : decode cX12_readCall 68 = .ok (.getfield 179, 3) := by decide +kernel
theorem dX12_readCall_71 : decode cX12_readCall 71 = .ok (.ifCond .ne 25, 3) := by decide +kernel
theorem dX12_readCall_74 : decode cX12_readCall 74 = .ok (.aload_n 0, 1) := by decide +kernel
theorem dX12_readCall_75 : decode cX12_readCall 75 = .ok (.getfield 88, 3) := by decide +kernel
theorem dX12_readCall_78 : decode cX12_readCall 78 = .ok (.bipush 24, 2) := by decide +kernel
theorem dX12_readCall_80 : decode cX12_readCall 80 = .ok (.iload_n 1, 1) := by decide +kernel
theorem dX12_readCall_81 : decode cX12_readCall 81 = .ok (.imul, 1) := by decide +kernel
theorem dX12_readCall_82 : decode cX12_readCall 82 = .ok (.iload_n 2, 1) := by decide +kernel
theorem dX12_readCall_83 : decode cX12_readCall 83 = .ok (.iadd, 1) := by decide +kernel
theorem dX12_readCall_84 : decode cX12_readCall 84 = .ok (.iload_n 3, 1) := by decide +kernel
theorem dX12_readCall_85 : decode cX12_readCall 85 = .ok (.iastore, 1) := by decide +kernel
theorem dX12_readCall_86 : decode cX12_readCall 86 = .ok (.aload_n 0, 1) := by decide +kernel
theorem dX12_readCall_87 : decode cX12_readCall 87 = .ok (.dup, 1) := by decide +kernel
theorem dX12_readCall_88 : decode cX12_readCall 88 = .ok (.getfield 213, 3) := by decide +kernel
theorem dX12_readCall_91 : decode cX12_readCall 91 = .ok (.iconst 1, 1) := by decide +kernel
theorem dX12_readCall_92 : decode cX12_readCall 92 = .ok (.iadd, 1) := by decide +kernel
theorem dX12_readCall_93 : decode cX12_readCall 93 = .ok (.putfield 213, 3) := by decide +kernel
theorem dX12_readCall_96 : decode cX12_readCall 96 = .ok (.return_, 1) := by decide +kernel
theorem dX12_readHear_0 : decode cX12_readHear 0 = .ok (.aload_n 0, 1) := by decide +kernel
theorem dX12_readHear_1 : decode cX12_readHear 1 = .ok (.getfield 216, 3) := by decide +kernel
theorem dX12_readHear_4 : decode cX12_readHear 4 = .ok (.ifCond .eq 9, 3) := by decide +kernel
theorem dX12_readHear_7 : decode cX12_readHear 7 = .ok (.aload_n 0, 1) := by decide +kernel
theorem dX12_readHear_8 : decode cX12_readHear 8 = .ok (.iconst 3, 1) := by decide +kernel
theorem dX12_readHear_9 : decode cX12_readHear 9 = .ok (.invokevirtual 185, 3) := by decide +kernel
theorem dX12_readHear_12 : decode cX12_readHear 12 = .ok (.return_, 1) := by decide +kernel
theorem dX12_readHear_13 : decode cX12_readHear 13 = .ok (.aload_n 0, 1) := by decide +kernel
theorem dX12_readHear_14 : decode cX12_readHear 14 = .ok (.iconst 1, 1) := by decide +kernel
theorem dX12_readHear_15 : decode cX12_readHear 15 = .ok (.putfield 216, 3) := by decide +kernel
theorem dX12_readHear_18 : decode cX12_readHear 18 = .ok (.aload_n 0, 1) := by decide +kernel
theorem dX12_readHear_19 : decode cX12_readHear 19 = .ok (.dup, 1) := by decide +kernel
theorem dX12_readHear_20 : decode cX12_readHear 20 = .ok (.getfield 176, 3) := by decide +kernel
theorem dX12_readHear_23 : decode cX12_readHear 23 = .ok (.iconst 1, 1) := by decide +kernel
theorem dX12_readHear_24 : decode cX12_readHear 24 = .ok (.iadd, 1) := by decide +kernel
theorem dX12_readHear_25 : decode cX12_readHear 25 = .ok (.putfield 176, 3) := by decide +kernel
theorem dX12_readHear_28 : decode cX12_readHear 28 = .ok (.aload_n 0, 1) := by decide +kernel
theorem dX12_readHear_29 : decode cX12_readHear 29 = .ok (.getfield 85, 3) := by decide +kernel
theorem dX12_readHear_32 : decode cX12_readHear 32 = .ok (.sipush 184, 3) := by decide +kernel
theorem dX12_readHear_35 : decode cX12_readHear 35 = .ok (.aload_n 0, 1) := by decide +kernel
theorem dX12_readHear_36 : decode cX12_readHear 36 = .ok (.iconst 0, 1) := by decide +kernel
theorem dX12_readHear_37 : decode cX12_readHear 37 = .ok (.bipush 14, 2) := by decide +kernel
theorem dX12_readHear_39 : decode cX12_readHear 39 = .ok (.invokevirtual 197, 3) := by decide +kernel
theorem dX12_readHear_42 : decode cX12_readHear 42 = .ok (.iastore, 1) := by decide +kernel
theorem dX12_readHear_43 : decode cX12_readHear 43 = .ok (.return_, 1) := by decide +kernel
theorem dX12_readLaw_0 : decode cX12_readLaw 0 = .ok (.aload_n 0, 1) := by decide +kernel
theorem dX12_readLaw_1 : decode cX12_readLaw 1 = .ok (.aload_n 0, 1) := by decide +kernel
theorem dX12_readLaw_2 : decode cX12_readLaw 2 = .ok (.bipush 10, 2) := by decide +kernel
theorem dX12_readLaw_4 : decode cX12_readLaw 4 = .ok (.invokevirtual 188, 3) := by decide +kernel
theorem dX12_readLaw_7 : decode cX12_readLaw 7 = .ok (.putfield 276, 3) := by decide +kernel
theorem dX12_readLaw_10 : decode cX12_readLaw 10 = .ok (.aload_n 0, 1) := by decide +kernel
theorem dX12_readLaw_11 : decode cX12_readLaw 11 = .ok (.getfield 276, 3) := by decide +kernel
theorem dX12_readLaw_14 : decode cX12_readLaw 14 = .ok (.ifCond .ne 18, 3) := by decide +kernel
theorem dX12_readLaw_17 : decode cX12_readLaw 17 = .ok (.aload_n 0, 1) := by decide +kernel
theorem dX12_readLaw_18 : decode cX12_readLaw 18 = .ok (.bipush 9, 2) := by decide +kernel
theorem dX12_readLaw_20 : decode cX12_readLaw 20 = .ok (.invokevirtual 188, 3) := by decide +kernel
theorem dX12_readLaw_23 : decode cX12_readLaw 23 = .ok (.ifCond .ne 9, 3) := by decide +kernel
theorem dX12_readLaw_26 : decode cX12_readLaw 26 = .ok (.aload_n 0, 1) := by decide +kernel
theorem dX12_readLaw_27 : decode cX12_readLaw 27 = .ok (.iconst 1, 1) := by decide +kernel
theorem dX12_readLaw_28 : decode cX12_readLaw 28 = .ok (.invokevirtual 185, 3) := by decide +kernel
theorem dX12_readLaw_31 : decode cX12_readLaw 31 = .ok (.return_, 1) := by decide +kernel
theorem dX12_readLaw_32 : decode cX12_readLaw 32 = .ok (.sipush 185, 3) := by decide +kernel
theorem dX12_readLaw_35 : decode cX12_readLaw 35 = .ok (.aload_n 0, 1) := by decide +kernel
theorem dX12_readLaw_36 : decode cX12_readLaw 36 = .ok (.getfield 276, 3) := by decide +kernel
theorem dX12_readLaw_39 : decode cX12_readLaw 39 = .ok (.ifCond .eq 7, 3) := by decide +kernel
theorem dX12_readLaw_42 : decode cX12_readLaw 42 = .ok (.iconst 1, 1) := by decide +kernel
theorem dX12_readLaw_43 : decode cX12_readLaw 43 = .ok (.goto 4, 3) := by decide +kernel
theorem dX12_readLaw_46 : decode cX12_readLaw 46 = .ok (.iconst 0, 1) := by decide +kernel
theorem dX12_readLaw_47 : decode cX12_readLaw 47 = .ok (.iadd, 1) := by decide +kernel
theorem dX12_readLaw_48 : decode cX12_readLaw 48 = .ok (.istore_n 1, 1) := by decide +kernel
theorem dX12_readLaw_49 : decode cX12_readLaw 49 = .ok (.aload_n 0, 1) := by decide +kernel
theorem dX12_readLaw_50 : decode cX12_readLaw 50 = .ok (.getfield 85, 3) := by decide +kernel
theorem dX12_readLaw_53 : decode cX12_readLaw 53 = .ok (.iload_n 1, 1) := by decide +kernel
theorem dX12_readLaw_54 : decode cX12_readLaw 54 = .ok (.iaload, 1) := by decide +kernel
theorem dX12_readLaw_55 : decode cX12_readLaw 55 = .ok (.ifCond .lt 9, 3) := by decide +kernel
theorem dX12_readLaw_58 : decode cX12_readLaw 58 = .ok (.aload_n 0, 1) := by decide +kernel
theorem dX12_readLaw_59 : decode cX12_readLaw 59 = .ok (.iconst 3, 1) := by decide +kernel
theorem dX12_readLaw_60 : decode cX12_readLaw 60 = .ok (.invokevirtual 185, 3) := by decide +kernel
theorem dX12_readLaw_63 : decode cX12_readLaw 63 = .ok (.return_, 1) := by decide +kernel
theorem dX12_readLaw_64 : decode cX12_readLaw 64 = .ok (.aload_n 0, 1) := by decide +kernel
theorem dX12_readLaw_65 : decode cX12_readLaw 65 = .ok (.dup, 1) := by decide +kernel
theorem dX12_readLaw_66 : decode cX12_readLaw 66 = .ok (.getfield 176, 3) := by decide +kernel
theorem dX12_readLaw_69 : decode cX12_readLaw 69 = .ok (.iconst 1, 1) := by decide +kernel
theorem dX12_readLaw_70 : decode cX12_readLaw 70 = .ok (.iadd, 1) := by decide +kernel
theorem dX12_readLaw_71 : decode cX12_readLaw 71 = .ok (.putfield 176, 3) := by decide +kernel
theorem dX12_readLaw_74 : decode cX12_readLaw 74 = .ok (.aload_n 0, 1) := by decide +kernel
theorem dX12_readLaw_75 : decode cX12_readLaw 75 = .ok (.getfield 85, 3) := by decide +kernel
theorem dX12_readLaw_78 : decode cX12_readLaw 78 = .ok (.iload_n 1, 1) := by decide +kernel
theorem dX12_readLaw_79 : decode cX12_readLaw 79 = .ok (.aload_n 0, 1) := by decide +kernel
theorem dX12_readLaw_80 : decode cX12_readLaw 80 = .ok (.getfield 207, 3) := by decide +kernel
theorem dX12_readLaw_83 : decode cX12_readLaw 83 = .ok (.iastore, 1) := by decide +kernel
theorem dX12_readLaw_84 : decode cX12_readLaw 84 = .ok (.aload_n 0, 1) := by decide +kernel
theorem dX12_readLaw_85 : decode cX12_readLaw 85 = .ok (.iconst 0, 1) := by decide +kernel
theorem dX12_readLaw_86 : decode cX12_readLaw 86 = .ok (.invokevirtual 279, 3) := by decide +kernel
theorem dX12_readLaw_89 : decode cX12_readLaw 89 = .ok (.aload_n 0, 1) := by decide +kernel
theorem dX12_readLaw_90 : decode cX12_readLaw 90 = .ok (.iconst 0, 1) := by decide +kernel
theorem dX12_readLaw_91 : decode cX12_readLaw 91 = .ok (.iconst 0, 1) := by decide +kernel
theorem dX12_readLaw_92 : decode cX12_readLaw 92 = .ok (.invokevirtual 282, 3) := by decide +kernel
theorem dX12_readLaw_95 : decode cX12_readLaw 95 = .ok (.return_, 1) := by decide +kernel
theorem dX12_emit_0 : decode cX12_emit 0 = .ok (.aload_n 0, 1) := by decide +kernel
theorem dX12_emit_1 : decode cX12_emit 1 = .ok (.getfield 94, 3) := by decide +kernel
theorem dX12_emit_4 : decode cX12_emit 4 = .ok (.sipush 1100, 3) := by decide +kernel
theorem dX12_emit_7 : decode cX12_emit 7 = .ok (.aload_n 0, 1) := by decide +kernel
theorem dX12_emit_8 : decode cX12_emit 8 = .ok (.getfield 207, 3) := by decide +kernel
theorem dX12_emit_11 : decode cX12_emit 11 = .ok (.iadd, 1) := by decide +kernel
theorem dX12_emit_12 : decode cX12_emit 12 = .ok (.iload_n 1, 1) := by decide +kernel
theorem dX12_emit_13 : decode cX12_emit 13 = .ok (.iastore, 1) := by decide +kernel
theorem dX12_emit_14 : decode cX12_emit 14 = .ok (.aload_n 0, 1) := by decide +kernel
theorem dX12_emit_15 : decode cX12_emit 15 = .ok (.getfield 97, 3) := by decide +kernel
theorem dX12_emit_18 : decode cX12_emit 18 = .ok (.sipush 1100, 3) := by decide +kernel
theorem dX12_emit_21 : decode cX12_emit 21 = .ok (.aload_n 0, 1) := by decide +kernel
theorem dX12_emit_22 : decode cX12_emit 22 = .ok (.getfield 207, 3) := by decide +kernel
theorem dX12_emit_25 : decode cX12_emit 25 = .ok (.iadd, 1) := by decide +kernel
theorem dX12_emit_26 : decode cX12_emit 26 = .ok (.iload_n 2, 1) := by decide +kernel
theorem dX12_emit_27 : decode cX12_emit 27 = .ok (.iastore, 1) := by decide +kernel
theorem dX12_emit_28 : decode cX12_emit 28 = .ok (.aload_n 0, 1) := by decide +kernel
theorem dX12_emit_29 : decode cX12_emit 29 = .ok (.dup, 1) := by decide +kernel
theorem dX12_emit_30 : decode cX12_emit 30 = .ok (.getfield 207, 3) := by decide +kernel
theorem dX12_emit_33 : decode cX12_emit 33 = .ok (.iconst 1, 1) := by decide +kernel
theorem dX12_emit_34 : decode cX12_emit 34 = .ok (.iadd, 1) := by decide +kernel
theorem dX12_emit_35 : decode cX12_emit 35 = .ok (.putfield 207, 3) := by decide +kernel
theorem dX12_emit_38 : decode cX12_emit 38 = .ok (.return_, 1) := by decide +kernel
theorem dX12_all_0 : decode cX12_all 0 = .ok (.aload_n 0, 1) := by decide +kernel
theorem dX12_all_1 : decode cX12_all 1 = .ok (.iload_n 1, 1) := by decide +kernel
theorem dX12_all_2 : decode cX12_all 2 = .ok (.invokevirtual 286, 3) := by decide +kernel
theorem dX12_all_5 : decode cX12_all 5 = .ok (.aload_n 0, 1) := by decide +kernel
theorem dX12_all_6 : decode cX12_all 6 = .ok (.bipush 18, 2) := by decide +kernel
theorem dX12_all_8 : decode cX12_all 8 = .ok (.invokevirtual 188, 3) := by decide +kernel
theorem dX12_all_11 : decode cX12_all 11 = .ok (.ifCond .ne 12, 3) := by decide +kernel
theorem dX12_all_14 : decode cX12_all 14 = .ok (.aload_n 0, 1) := by decide +kernel
theorem dX12_all_15 : decode cX12_all 15 = .ok (.bipush 19, 2) := by decide +kernel
theorem dX12_all_17 : decode cX12_all 17 = .ok (.invokevirtual 188, 3) := by decide +kernel
theorem dX12_all_20 : decode cX12_all 20 = .ok (.ifCond .eq 44, 3) := by decide +kernel
theorem dX12_all_23 : decode cX12_all 23 = .ok (.aload_n 0, 1) := by decide +kernel
theorem dX12_all_24 : decode cX12_all 24 = .ok (.bipush 18, 2) := by decide +kernel
theorem dX12_all_26 : decode cX12_all 26 = .ok (.invokevirtual 188, 3) := by decide +kernel
theorem dX12_all_29 : decode cX12_all 29 = .ok (.istore_n 2, 1) := by decide +kernel
theorem dX12_all_30 : decode cX12_all 30 = .ok (.aload_n 0, 1) := by decide +kernel
theorem dX12_all_31 : decode cX12_all 31 = .ok (.dup, 1) := by decide +kernel
theorem dX12_all_32 : decode cX12_all 32 = .ok (.getfield 176, 3) := by decide +kernel
theorem dX12_all_35 : decode cX12_all 35 = .ok (.iconst 1, 1) := by decide +kernel
theorem dX12_all_36 : decode cX12_all 36 = .ok (.iadd, 1) := by decide +kernel
theorem dX12_all_37 : decode cX12_all 37 = .ok (.putfield 176, 3) := by decide +kernel
theorem dX12_all_40 : decode cX12_all 40 = .ok (.aload_n 0, 1) := by decide +kernel
theorem dX12_all_41 : decode cX12_all 41 = .ok (.iload_n 1, 1) := by decide +kernel
theorem dX12_all_42 : decode cX12_all 42 = .ok (.invokevirtual 286, 3) := by decide +kernel
theorem dX12_all_45 : decode cX12_all 45 = .ok (.aload_n 0, 1) := by decide +kernel
theorem dX12_all_46 : decode cX12_all 46 = .ok (.iload_n 2, 1) := by decide +kernel
theorem dX12_all_47 : decode cX12_all 47 = .ok (.ifCond .eq 8, 3) := by decide +kernel
theorem dX12_all_50 : decode cX12_all 50 = .ok (.bipush 9, 2) := by decide +kernel
theorem dX12_all_52 : decode cX12_all 52 = .ok (.goto 5, 3) := by decide +kernel
theorem dX12_all_55 : decode cX12_all 55 = .ok (.bipush 10, 2) := by decide +kernel
theorem dX12_all_57 : decode cX12_all 57 = .ok (.iconst 0, 1) := by decide +kernel
theorem dX12_all_58 : decode cX12_all 58 = .ok (.invokevirtual 282, 3) := by decide +kernel
theorem dX12_all_61 : decode cX12_all 61 = .ok (.goto (-56), 3) := by decide +kernel
theorem dX12_all_64 : decode cX12_all 64 = .ok (.return_, 1) := by decide +kernel
theorem dX12_test_0 : decode cX12_test 0 = .ok (.aload_n 0, 1) := by decide +kernel
theorem dX12_test_1 : decode cX12_test 1 = .ok (.iload_n 1, 1) := by decide +kernel
theorem dX12_test_2 : decode cX12_test 2 = .ok (.invokevirtual 289, 3) := by decide +kernel
theorem dX12_test_5 : decode cX12_test 5 = .ok (.aload_n 0, 1) := by decide +kernel
theorem dX12_test_6 : decode cX12_test 6 = .ok (.bipush 60, 2) := by decide +kernel
theorem dX12_test_8 : decode cX12_test 8 = .ok (.invokevirtual 182, 3) := by decide +kernel
theorem dX12_test_11 : decode cX12_test 11 = .ok (.istore_n 2, 1) := by decide +kernel
theorem dX12_test_12 : decode cX12_test 12 = .ok (.aload_n 0, 1) := by decide +kernel
theorem dX12_test_13 : decode cX12_test 13 = .ok (.bipush 60, 2) := by decide +kernel
theorem dX12_test_15 : decode cX12_test 15 = .ok (.invokevirtual 292, 3) := by decide +kernel
theorem dX12_test_18 : decode cX12_test 18 = .ok (.ifCond .ne 12, 3) := by decide +kernel
theorem dX12_test_21 : decode cX12_test 21 = .ok (.aload_n 0, 1) := by decide +kernel
theorem dX12_test_22 : decode cX12_test 22 = .ok (.bipush 61, 2) := by decide +kernel
theorem dX12_test_24 : decode cX12_test 24 = .ok (.invokevirtual 292, 3) := by decide +kernel
theorem dX12_test_27 : decode cX12_test 27 = .ok (.ifCond .eq 24, 3) := by decide +kernel
theorem dX12_test_30 : decode cX12_test 30 = .ok (.aload_n 0, 1) := by decide +kernel
theorem dX12_test_31 : decode cX12_test 31 = .ok (.iload_n 1, 1) := by decide +kernel
theorem dX12_test_32 : decode cX12_test 32 = .ok (.invokevirtual 289, 3) := by decide +kernel
theorem dX12_test_35 : decode cX12_test 35 = .ok (.aload_n 0, 1) := by decide +kernel
theorem dX12_test_36 : decode cX12_test 36 = .ok (.iload_n 2, 1) := by decide +kernel
theorem dX12_test_37 : decode cX12_test 37 = .ok (.ifCond .eq 8, 3) := by decide +kernel
theorem dX12_test_40 : decode cX12_test 40 = .ok (.bipush 7, 2) := by decide +kernel
theorem dX12_test_42 : decode cX12_test 42 = .ok (.goto 5, 3) := by decide +kernel
theorem dX12_test_45 : decode cX12_test 45 = .ok (.bipush 8, 2) := by decide +kernel
theorem dX12_test_47 : decode cX12_test 47 = .ok (.iconst 0, 1) := by decide +kernel
theorem dX12_test_48 : decode cX12_test 48 = .ok (.invokevirtual 282, 3) := by decide +kernel
theorem dX12_test_51 : decode cX12_test 51 = .ok (.return_, 1) := by decide +kernel
theorem dX12_sums_0 : decode cX12_sums 0 = .ok (.aload_n 0, 1) := by decide +kernel
theorem dX12_sums_1 : decode cX12_sums 1 = .ok (.iload_n 1, 1) := by decide +kernel
theorem dX12_sums_2 : decode cX12_sums 2 = .ok (.invokevirtual 295, 3) := by decide +kernel
theorem dX12_sums_5 : decode cX12_sums 5 = .ok (.aload_n 0, 1) := by decide +kernel
theorem dX12_sums_6 : decode cX12_sums 6 = .ok (.bipush 43, 2) := by decide +kernel
theorem dX12_sums_8 : decode cX12_sums 8 = .ok (.invokevirtual 182, 3) := by decide +kernel
theorem dX12_sums_11 : decode cX12_sums 11 = .ok (.ifCond .ne 12, 3) := by decide +kernel
theorem dX12_sums_14 : decode cX12_sums 14 = .ok (.aload_n 0, 1) := by decide +kernel
theorem dX12_sums_15 : decode cX12_sums 15 = .ok (.bipush 45, 2) := by decide +kernel
theorem dX12_sums_17 : decode cX12_sums 17 = .ok (.invokevirtual 182, 3) := by decide +kernel
theorem dX12_sums_20 : decode cX12_sums 20 = .ok (.ifCond .eq 42, 3) := by decide +kernel
theorem dX12_sums_23 : decode cX12_sums 23 = .ok (.aload_n 0, 1) := by decide +kernel
theorem dX12_sums_24 : decode cX12_sums 24 = .ok (.bipush 43, 2) := by decide +kernel
theorem dX12_sums_26 : decode cX12_sums 26 = .ok (.invokevirtual 182, 3) := by decide +kernel
theorem dX12_sums_29 : decode cX12_sums 29 = .ok (.istore_n 2, 1) := by decide +kernel
theorem dX12_sums_30 : decode cX12_sums 30 = .ok (.aload_n 0, 1) := by decide +kernel
theorem dX12_sums_31 : decode cX12_sums 31 = .ok (.dup, 1) := by decide +kernel
theorem dX12_sums_32 : decode cX12_sums 32 = .ok (.getfield 176, 3) := by decide +kernel
theorem dX12_sums_35 : decode cX12_sums 35 = .ok (.iconst 1, 1) := by decide +kernel
theorem dX12_sums_36 : decode cX12_sums 36 = .ok (.iadd, 1) := by decide +kernel
theorem dX12_sums_37 : decode cX12_sums 37 = .ok (.putfield 176, 3) := by decide +kernel
theorem dX12_sums_40 : decode cX12_sums 40 = .ok (.aload_n 0, 1) := by decide +kernel
theorem dX12_sums_41 : decode cX12_sums 41 = .ok (.iload_n 1, 1) := by decide +kernel
theorem dX12_sums_42 : decode cX12_sums 42 = .ok (.invokevirtual 295, 3) := by decide +kernel
theorem dX12_sums_45 : decode cX12_sums 45 = .ok (.aload_n 0, 1) := by decide +kernel
theorem dX12_sums_46 : decode cX12_sums 46 = .ok (.iload_n 2, 1) := by decide +kernel
theorem dX12_sums_47 : decode cX12_sums 47 = .ok (.ifCond .eq 7, 3) := by decide +kernel
theorem dX12_sums_50 : decode cX12_sums 50 = .ok (.iconst 4, 1) := by decide +kernel
theorem dX12_sums_51 : decode cX12_sums 51 = .ok (.goto 4, 3) := by decide +kernel
theorem dX12_sums_54 : decode cX12_sums 54 = .ok (.iconst 5, 1) := by decide +kernel
theorem dX12_sums_55 : decode cX12_sums 55 = .ok (.iconst 0, 1) := by decide +kernel
theorem dX12_sums_56 : decode cX12_sums 56 = .ok (.invokevirtual 282, 3) := by decide +kernel
theorem dX12_sums_59 : decode cX12_sums 59 = .ok (.goto (-54), 3) := by decide +kernel
theorem dX12_sums_62 : decode cX12_sums 62 = .ok (.return_, 1) := by decide +kernel
theorem dX12_products_0 : decode cX12_products 0 = .ok (.aload_n 0, 1) := by decide +kernel
theorem dX12_products_1 : decode cX12_products 1 = .ok (.iload_n 1, 1) := by decide +kernel
theorem dX12_products_2 : decode cX12_products 2 = .ok (.invokevirtual 298, 3) := by decide +kernel
theorem dX12_products_5 : decode cX12_products 5 = .ok (.aload_n 0, 1) := by decide +kernel
theorem dX12_products_6 : decode cX12_products 6 = .ok (.bipush 42, 2) := by decide +kernel
theorem dX12_products_8 : decode cX12_products 8 = .ok (.invokevirtual 292, 3) := by decide +kernel
theorem dX12_products_11 : decode cX12_products 11 = .ok (.ifCond .eq 18, 3) := by decide +kernel
theorem dX12_products_14 : decode cX12_products 14 = .ok (.aload_n 0, 1) := by decide +kernel
theorem dX12_products_15 : decode cX12_products 15 = .ok (.iload_n 1, 1) := by decide +kernel
theorem dX12_products_16 : decode cX12_products 16 = .ok (.invokevirtual 298, 3) := by decide +kernel
theorem dX12_products_19 : decode cX12_products 19 = .ok (.aload_n 0, 1) := by decide +kernel
theorem dX12_products_20 : decode cX12_products 20 = .ok (.bipush 6, 2) := by decide +kernel
theorem dX12_products_22 : decode cX12_products 22 = .ok (.iconst 0, 1) := by decide +kernel
theorem dX12_products_23 : decode cX12_products 23 = .ok (.invokevirtual 282, 3) := by decide +kernel
theorem dX12_products_26 : decode cX12_products 26 = .ok (.goto (-21), 3) := by decide +kernel
theorem dX12_products_29 : decode cX12_products 29 = .ok (.return_, 1) := by decide +kernel
theorem dX12_factHere_0 : decode cX12_factHere 0 = .ok (.iconst (-1), 1) := by decide +kernel
theorem dX12_factHere_1 : decode cX12_factHere 1 = .ok (.istore_n 1, 1) := by decide +kernel
theorem dX12_factHere_2 : decode cX12_factHere 2 = .ok (.iconst 0, 1) := by decide +kernel
theorem dX12_factHere_3 : decode cX12_factHere 3 = .ok (.istore_n 2, 1) := by decide +kernel
theorem dX12_factHere_4 : decode cX12_factHere 4 = .ok (.iload_n 2, 1) := by decide +kernel
theorem dX12_factHere_5 : decode cX12_factHere 5 = .ok (.bipush 6, 2) := by decide +kernel
theorem dX12_factHere_7 : decode cX12_factHere 7 = .ok (.if_icmp .ge 59, 3) := by decide +kernel
theorem dX12_factHere_10 : decode cX12_factHere 10 = .ok (.iload_n 2, 1) := by decide +kernel
theorem dX12_factHere_11 : decode cX12_factHere 11 = .ok (.ifCond .eq 20, 3) := by decide +kernel
theorem dX12_factHere_14 : decode cX12_factHere 14 = .ok (.iload_n 2, 1) := by decide +kernel
theorem dX12_factHere_15 : decode cX12_factHere 15 = .ok (.iconst 4, 1) := by decide +kernel
theorem dX12_factHere_16 : decode cX12_factHere 16 = .ok (.if_icmp .ge 7, 3) := by decide +kernel
theorem dX12_factHere_19 : decode cX12_factHere 19 = .ok (.iconst 1, 1) := by decide +kernel
theorem dX12_factHere_20 : decode cX12_factHere 20 = .ok (.goto 4, 3) := by decide +kernel
theorem dX12_factHere_23 : decode cX12_factHere 23 = .ok (.iconst 0, 1) := by decide +kernel
theorem dX12_factHere_24 : decode cX12_factHere 24 = .ok (.aload_n 0, 1) := by decide +kernel
theorem dX12_factHere_25 : decode cX12_factHere 25 = .ok (.getfield 276, 3) := by decide +kernel
theorem dX12_factHere_28 : decode cX12_factHere 28 = .ok (.if_icmp .eq 7, 3) := by decide +kernel
theorem dX12_factHere_31 : decode cX12_factHere 31 = .ok (.iconst 1, 1) := by decide +kernel
theorem dX12_factHere_32 : decode cX12_factHere 32 = .ok (.goto 4, 3) := by decide +kernel
theorem dX12_factHere_35 : decode cX12_factHere 35 = .ok (.iconst 0, 1) := by decide +kernel
theorem dX12_factHere_36 : decode cX12_factHere 36 = .ok (.istore_n 3, 1) := by decide +kernel
theorem dX12_factHere_37 : decode cX12_factHere 37 = .ok (.iload_n 3, 1) := by decide +kernel
theorem dX12_factHere_38 : decode cX12_factHere 38 = .ok (.ifCond .eq 20, 3) := by decide +kernel
theorem dX12_factHere_41 : decode cX12_factHere 41 = .ok (.aload_n 0, 1) := by decide +kernel
theorem dX12_factHere_42 : decode cX12_factHere 42 = .ok (.aload_n 0, 1) := by decide +kernel
theorem dX12_factHere_43 : decode cX12_factHere 43 = .ok (.getfield 106, 3) := by decide +kernel
theorem dX12_factHere_46 : decode cX12_factHere 46 = .ok (.iload_n 2, 1) := by decide +kernel
theorem dX12_factHere_47 : decode cX12_factHere 47 = .ok (.iaload, 1) := by decide +kernel
theorem dX12_factHere_48 : decode cX12_factHere 48 = .ok (.invokevirtual 188, 3) := by decide +kernel
theorem dX12_factHere_51 : decode cX12_factHere 51 = .ok (.ifCond .eq 7, 3) := by decide +kernel
theorem dX12_factHere_54 : decode cX12_factHere 54 = .ok (.iload_n 2, 1) := by decide +kernel
theorem dX12_factHere_55 : decode cX12_factHere 55 = .ok (.goto 4, 3) := by decide +kernel
theorem dX12_factHere_58 : decode cX12_factHere 58 = .ok (.iload_n 1, 1) := by decide +kernel
theorem dX12_factHere_59 : decode cX12_factHere 59 = .ok (.istore_n 1, 1) := by decide +kernel
theorem dX12_factHere_60 : decode cX12_factHere 60 = .ok (.iinc 2 1, 3) := by decide +kernel
theorem dX12_factHere_63 : decode cX12_factHere 63 = .ok (.goto (-59), 3) := by decide +kernel
theorem dX12_factHere_66 : decode cX12_factHere 66 = .ok (.iload_n 1, 1) := by decide +kernel
theorem dX12_factHere_67 : decode cX12_factHere 67 = .ok (.ireturn, 1) := by decide +kernel
theorem dX12_takePart_0 : decode cX12_takePart 0 = .ok (.aload_n 0, 1) := by decide +kernel
theorem dX12_takePart_1 : decode cX12_takePart 1 = .ok (.getfield 179, 3) := by decide +kernel
theorem dX12_takePart_4 : decode cX12_takePart 4 = .ok (.ifCond .le 4, 3) := by decide +kernel
theorem dX12_takePart_7 : decode cX12_takePart 7 = .ok (.return_, 1) := by decide +kernel
theorem dX12_takePart_8 : decode cX12_takePart 8 = .ok (.aload_n 0, 1) := by decide +kernel
theorem dX12_takePart_9 : decode cX12_takePart 9 = .ok (.getfield 24, 3) := by decide +kernel
theorem dX12_takePart_12 : decode cX12_takePart 12 = .ok (.aload_n 0, 1) := by decide +kernel
theorem dX12_takePart_13 : decode cX12_takePart 13 = .ok (.getfield 176, 3) := by decide +kernel
theorem dX12_takePart_16 : decode cX12_takePart 16 = .ok (.iaload, 1) := by decide +kernel
theorem dX12_takePart_17 : decode cX12_takePart 17 = .ok (.iconst 2, 1) := by decide +kernel
theorem dX12_takePart_18 : decode cX12_takePart 18 = .ok (.if_icmp .ne 7, 3) := by decide +kernel
theorem dX12_takePart_21 : decode cX12_takePart 21 = .ok (.iconst 1, 1) := by decide +kernel
theorem dX12_takePart_22 : decode cX12_takePart 22 = .ok (.goto 4, 3) := by decide +kernel
theorem dX12_takePart_25 : decode cX12_takePart 25 = .ok (.iconst 0, 1) := by decide +kernel
theorem dX12_takePart_26 : decode cX12_takePart 26 = .ok (.istore_n 2, 1) := by decide +kernel
theorem dX12_takePart_27 : decode cX12_takePart 27 = .ok (.aload_n 0, 1) := by decide +kernel
theorem dX12_takePart_28 : decode cX12_takePart 28 = .ok (.invokevirtual 301, 3) := by decide +kernel
theorem dX12_takePart_31 : decode cX12_takePart 31 = .ok (.istore_n 3, 1) := by decide +kernel
theorem dX12_takePart_32 : decode cX12_takePart 32 = .ok (.iload_n 3, 1) := by decide +kernel
theorem dX12_takePart_33 : decode cX12_takePart 33 = .ok (.ifCond .ge 33, 3) := by decide +kernel
theorem dX12_takePart_36 : decode cX12_takePart 36 = .ok (.iload_n 2, 1) := by decide +kernel
theorem dX12_takePart_37 : decode cX12_takePart 37 = .ok (.ifCond .ne 29, 3) := by decide +kernel
theorem dX12_takePart_40 : decode cX12_takePart 40 = .ok (.aload_n 0, 1) := by decide +kernel
theorem dX12_takePart_41 : decode cX12_takePart 41 = .ok (.bipush 40, 2) := by decide +kernel
theorem dX12_takePart_43 : decode cX12_takePart 43 = .ok (.invokevirtual 182, 3) := by decide +kernel
theorem dX12_takePart_46 : decode cX12_takePart 46 = .ok (.ifCond .ne 20, 3) := by decide +kernel
theorem dX12_takePart_49 : decode cX12_takePart 49 = .ok (.aload_n 0, 1) := by decide +kernel
theorem dX12_takePart_50 : decode cX12_takePart 50 = .ok (.bipush 17, 2) := by decide +kernel
theorem dX12_takePart_52 : decode cX12_takePart 52 = .ok (.invokevirtual 188, 3) := by decide +kernel
theorem dX12_takePart_55 : decode cX12_takePart 55 = .ok (.ifCond .ne 11, 3) := by decide +kernel
theorem dX12_takePart_58 : decode cX12_takePart 58 = .ok (.aload_n 0, 1) := by decide +kernel
theorem dX12_takePart_59 : decode cX12_takePart 59 = .ok (.iconst 1, 1) := by decide +kernel
theorem dX12_takePart_60 : decode cX12_takePart 60 = .ok (.invokevirtual 185, 3) := by decide +kernel
theorem dX12_takePart_63 : decode cX12_takePart 63 = .ok (.goto 13, 3) := by decide +kernel
theorem dX12_takePart_66 : decode cX12_takePart 66 = .ok (.iload_n 1, 1) := by decide +kernel
theorem dX12_takePart_67 : decode cX12_takePart 67 = .ok (.iconst 5, 1) := by decide +kernel
theorem dX12_takePart_68 : decode cX12_takePart 68 = .ok (.if_icmp .ne 8, 3) := by decide +kernel
theorem dX12_takePart_71 : decode cX12_takePart 71 = .ok (.aload_n 0, 1) := by decide +kernel
theorem dX12_takePart_72 : decode cX12_takePart 72 = .ok (.iconst 5, 1) := by decide +kernel
theorem dX12_takePart_73 : decode cX12_takePart 73 = .ok (.invokevirtual 185, 3) := by decide +kernel
theorem dX12_takePart_76 : decode cX12_takePart 76 = .ok (.aload_n 0, 1) := by decide +kernel
theorem dX12_takePart_77 : decode cX12_takePart 77 = .ok (.getfield 179, 3) := by decide +kernel
theorem dX12_takePart_80 : decode cX12_takePart 80 = .ok (.ifCond .le 4, 3) := by decide +kernel
theorem dX12_takePart_83 : decode cX12_takePart 83 = .ok (.return_, 1) := by decide +kernel
theorem dX12_takePart_84 : decode cX12_takePart 84 = .ok (.aload_n 0, 1) := by decide +kernel
theorem dX12_takePart_85 : decode cX12_takePart 85 = .ok (.bipush 17, 2) := by decide +kernel
theorem dX12_takePart_87 : decode cX12_takePart 87 = .ok (.invokevirtual 191, 3) := by decide +kernel
theorem dX12_takePart_90 : decode cX12_takePart 90 = .ok (.ifCond .eq 19, 3) := by decide +kernel
theorem dX12_takePart_93 : decode cX12_takePart 93 = .ok (.aload_n 0, 1) := by decide +kernel
theorem dX12_takePart_94 : decode cX12_takePart 94 = .ok (.iload_n 1, 1) := by decide +kernel
theorem dX12_takePart_95 : decode cX12_takePart 95 = .ok (.iconst 1, 1) := by decide +kernel
theorem dX12_takePart_96 : decode cX12_takePart 96 = .ok (.iadd, 1) := by decide +kernel
theorem dX12_takePart_97 : decode cX12_takePart 97 = .ok (.invokevirtual 298, 3) := by decide +kernel
theorem dX12_takePart_100 : decode cX12_takePart 100 = .ok (.aload_n 0, 1) := by decide +kernel
theorem dX12_takePart_101 : decode cX12_takePart 101 = .ok (.iconst 3, 1) := by decide +kernel
theorem dX12_takePart_102 : decode cX12_takePart 102 = .ok (.iconst 0, 1) := by decide +kernel
theorem dX12_takePart_103 : decode cX12_takePart 103 = .ok (.invokevirtual 282, 3) := by decide +kernel
theorem dX12_takePart_106 : decode cX12_takePart 106 = .ok (.goto 69, 3) := by decide +kernel
theorem dX12_takePart_109 : decode cX12_takePart 109 = .ok (.aload_n 0, 1) := by decide +kernel
theorem dX12_takePart_110 : decode cX12_takePart 110 = .ok (.bipush 40, 2) := by decide +kernel
theorem dX12_takePart_112 : decode cX12_takePart 112 = .ok (.invokevirtual 292, 3) := by decide +kernel
theorem dX12_takePart_115 : decode cX12_takePart 115 = .ok (.ifCond .eq 19, 3) := by decide +kernel
theorem dX12_takePart_118 : decode cX12_takePart 118 = .ok (.aload_n 0, 1) := by decide +kernel
theorem dX12_takePart_119 : decode cX12_takePart 119 = .ok (.iload_n 1, 1) := by decide +kernel
theorem dX12_takePart_120 : decode cX12_takePart 120 = .ok (.iconst 1, 1) := by decide +kernel
theorem dX12_takePart_121 : decode cX12_takePart 121 = .ok (.iadd, 1) := by decide +kernel
theorem dX12_takePart_122 : decode cX12_takePart 122 = .ok (.invokevirtual 279, 3) := by decide +kernel
theorem dX12_takePart_125 : decode cX12_takePart 125 = .ok (.aload_n 0, 1) := by decide +kernel
theorem dX12_takePart_126 : decode cX12_takePart 126 = .ok (.bipush 41, 2) := by decide +kernel
theorem dX12_takePart_128 : decode cX12_takePart 128 = .ok (.invokevirtual 220, 3) := by decide +kernel
theorem dX12_takePart_131 : decode cX12_takePart 131 = .ok (.goto 44, 3) := by decide +kernel
theorem dX12_takePart_134 : decode cX12_takePart 134 = .ok (.aload_n 0, 1) := by decide +kernel
theorem dX12_takePart_135 : decode cX12_takePart 135 = .ok (.iload_n 2, 1) := by decide +kernel
theorem dX12_takePart_136 : decode cX12_takePart 136 = .ok (.ifCond .eq 7, 3) := by decide +kernel
theorem dX12_takePart_139 : decode cX12_takePart 139 = .ok (.iconst 1, 1) := by decide +kernel
theorem dX12_takePart_140 : decode cX12_takePart 140 = .ok (.goto 4, 3) := by decide +kernel
theorem dX12_takePart_143 : decode cX12_takePart 143 = .ok (.iconst 2, 1) := by decide +kernel
theorem dX12_takePart_144 : decode cX12_takePart 144 = .ok (.iload_n 2, 1) := by decide +kernel
theorem dX12_takePart_145 : decode cX12_takePart 145 = .ok (.ifCond .eq 16, 3) := by decide +kernel
theorem dX12_takePart_148 : decode cX12_takePart 148 = .ok (.aload_n 0, 1) := by decide +kernel
theorem dX12_takePart_149 : decode cX12_takePart 149 = .ok (.getfield 30, 3) := by decide +kernel
theorem dX12_takePart_152 : decode cX12_takePart 152 = .ok (.aload_n 0, 1) := by decide +kernel
theorem dX12_takePart_153 : decode cX12_takePart 153 = .ok (.getfield 176, 3) := by decide +kernel
theorem dX12_takePart_156 : decode cX12_takePart 156 = .ok (.laload, 1) := by decide +kernel
theorem dX12_takePart_157 : decode cX12_takePart 157 = .ok (.l2i, 1) := by decide +kernel
theorem dX12_takePart_158 : decode cX12_takePart 158 = .ok (.goto 4, 3) := by decide +kernel
theorem dX12_takePart_161 : decode cX12_takePart 161 = .ok (.iload_n 3, 1) := by decide +kernel
theorem dX12_takePart_162 : decode cX12_takePart 162 = .ok (.invokevirtual 282, 3) := by decide +kernel
theorem dX12_takePart_165 : decode cX12_takePart 165 = .ok (.aload_n 0, 1) := by decide +kernel
theorem dX12_takePart_166 : decode cX12_takePart 166 = .ok (.dup, 1) := by decide +kernel
theorem dX12_takePart_167 : decode cX12_takePart 167 = .ok (.getfield 176, 3) := by decide +kernel
theorem dX12_takePart_170 : decode cX12_takePart 170 = .ok (.iconst 1, 1) := by decide +kernel
theorem dX12_takePart_171 : decode cX12_takePart 171 = .ok (.iadd, 1) := by decide +kernel
theorem dX12_takePart_172 : decode cX12_takePart 172 = .ok (.putfield 176, 3) := by decide +kernel
theorem dX12_takePart_175 : decode cX12_takePart 175 = .ok (.return_, 1) := by decide +kernel
theorem dX12_worthAt_0 : decode cX12_worthAt 0 = .ok (.iconst 0, 1) := by decide +kernel
theorem dX12_worthAt_1 : decode cX12_worthAt 1 = .ok (.istore_n 2, 1) := by decide +kernel
theorem dX12_worthAt_2 : decode cX12_worthAt 2 = .ok (.iload_n 1, 1) := by decide +kernel
theorem dX12_worthAt_3 : decode cX12_worthAt 3 = .ok (.istore_n 3, 1) := by decide +kernel
theorem dX12_worthAt_4 : decode cX12_worthAt 4 = .ok (.aload_n 0, 1) := by decide +kernel
theorem dX12_worthAt_5 : decode cX12_worthAt 5 = .ok (.getfield 94, 3) := by decide +kernel
theorem dX12_worthAt_8 : decode cX12_worthAt 8 = .ok (.iload_n 3, 1) := by decide +kernel
theorem dX12_worthAt_9 : decode cX12_worthAt 9 = .ok (.iaload, 1) := by decide +kernel
theorem dX12_worthAt_10 : decode cX12_worthAt 10 = .ok (.ifCond .eq 130, 3) := by decide +kernel
theorem dX12_worthAt_13 : decode cX12_worthAt 13 = .ok (.aload_n 0, 1) := by decide +kernel
theorem dX12_worthAt_14 : decode cX12_worthAt 14 = .ok (.getfield 94, 3) := by decide +kernel
theorem dX12_worthAt_17 : decode cX12_worthAt 17 = .ok (.iload_n 3, 1) := by decide +kernel
theorem dX12_worthAt_18 : decode cX12_worthAt 18 = .ok (.iaload, 1) := by decide +kernel
theorem dX12_worthAt_19 : decode cX12_worthAt 19 = .ok (.istore 4, 2) := by decide +kernel
theorem dX12_worthAt_21 : decode cX12_worthAt 21 = .ok (.iload 4, 2) := by decide +kernel
theorem dX12_worthAt_23 : decode cX12_worthAt 23 = .ok (.iconst 1, 1) := by decide +kernel
theorem dX12_worthAt_24 : decode cX12_worthAt 24 = .ok (.if_icmp .eq 9, 3) := by decide +kernel
theorem dX12_worthAt_27 : decode cX12_worthAt 27 = .ok (.iload 4, 2) := by decide +kernel
theorem dX12_worthAt_29 : decode cX12_worthAt 29 = .ok (.iconst 2, 1) := by decide +kernel
theorem dX12_worthAt_30 : decode cX12_worthAt 30 = .ok (.if_icmp .ne 41, 3) := by decide +kernel
theorem dX12_worthAt_33 : decode cX12_worthAt 33 = .ok (.aload_n 0, 1) := by decide +kernel
theorem dX12_worthAt_34 : decode cX12_worthAt 34 = .ok (.getfield 112, 3) := by decide +kernel
theorem dX12_worthAt_37 : decode cX12_worthAt 37 = .ok (.iload_n 2, 1) := by decide +kernel
theorem dX12_worthAt_38 : decode cX12_worthAt 38 = .ok (.iload 4, 2) := by decide +kernel
theorem dX12_worthAt_40 : decode cX12_worthAt 40 = .ok (.iconst 1, 1) := by decide +kernel
theorem dX12_worthAt_41 : decode cX12_worthAt 41 = .ok (.if_icmp .ne 12, 3) := by decide +kernel
theorem dX12_worthAt_44 : decode cX12_worthAt 44 = .ok (.aload_n 0, 1) := by decide +kernel
theorem dX12_worthAt_45 : decode cX12_worthAt 45 = .ok (.getfield 97, 3) := by decide +kernel
theorem dX12_worthAt_48 : decode cX12_worthAt 48 = .ok (.iload_n 3, 1) := by decide +kernel
theorem dX12_worthAt_49 : decode cX12_worthAt 49 = .ok (.iaload, 1) := by decide +kernel
theorem dX12_worthAt_50 : decode cX12_worthAt 50 = .ok (.goto 14, 3) := by decide +kernel
theorem dX12_worthAt_53 : decode cX12_worthAt 53 = .ok (.aload_n 0, 1) := by decide +kernel
theorem dX12_worthAt_54 : decode cX12_worthAt 54 = .ok (.getfield 109, 3) := by decide +kernel
theorem dX12_worthAt_57 : decode cX12_worthAt 57 = .ok (.aload_n 0, 1) := by decide +kernel
theorem dX12_worthAt_58 : decode cX12_worthAt 58 = .ok (.getfield 97, 3) := by decide +kernel
theorem dX12_worthAt_61 : decode cX12_worthAt 61 = .ok (.iload_n 3, 1) := by decide +kernel
theorem dX12_worthAt_62 : decode cX12_worthAt 62 = .ok (.iaload, 1) := by decide +kernel
theorem dX12_worthAt_63 : decode cX12_worthAt 63 = .ok (.iaload, 1) := by decide +kernel
theorem dX12_worthAt_64 : decode cX12_worthAt 64 = .ok (.iastore, 1) := by decide +kernel
theorem dX12_worthAt_65 : decode cX12_worthAt 65 = .ok (.iinc 2 1, 3) := by decide +kernel
theorem dX12_worthAt_68 : decode cX12_worthAt 68 = .ok (.goto 66, 3) := by decide +kernel
theorem dX12_worthAt_71 : decode cX12_worthAt 71 = .ok (.iload 4, 2) := by decide +kernel
theorem dX12_worthAt_73 : decode cX12_worthAt 73 = .ok (.iconst 3, 1) := by decide +kernel
theorem dX12_worthAt_74 : decode cX12_worthAt 74 = .ok (.if_icmp .ne 30, 3) := by decide +kernel
theorem dX12_worthAt_77 : decode cX12_worthAt 77 = .ok (.aload_n 0, 1) := by decide +kernel
theorem dX12_worthAt_78 : decode cX12_worthAt 78 = .ok (.getfield 112, 3) := by decide +kernel
theorem dX12_worthAt_81 : decode cX12_worthAt 81 = .ok (.iload_n 2, 1) := by decide +kernel
theorem dX12_worthAt_82 : decode cX12_worthAt 82 = .ok (.iconst 1, 1) := by decide +kernel
theorem dX12_worthAt_83 : decode cX12_worthAt 83 = .ok (.isub, 1) := by decide +kernel
theorem dX12_worthAt_84 : decode cX12_worthAt 84 = .ok (.aload_n 0, 1) := by decide +kernel
theorem dX12_worthAt_85 : decode cX12_worthAt 85 = .ok (.getfield 112, 3) := by decide +kernel
theorem dX12_worthAt_88 : decode cX12_worthAt 88 = .ok (.iload_n 2, 1) := by decide +kernel
theorem dX12_worthAt_89 : decode cX12_worthAt 89 = .ok (.iconst 1, 1) := by decide +kernel
theorem dX12_worthAt_90 : decode cX12_worthAt 90 = .ok (.isub, 1) := by decide +kernel
theorem dX12_worthAt_91 : decode cX12_worthAt 91 = .ok (.iaload, 1) := by decide +kernel
theorem dX12_worthAt_92 : decode cX12_worthAt 92 = .ok (.ifCond .ne 7, 3) := by decide +kernel
theorem dX12_worthAt_95 : decode cX12_worthAt 95 = .ok (.iconst 1, 1) := by decide +kernel
theorem dX12_worthAt_96 : decode cX12_worthAt 96 = .ok (.goto 4, 3) := by decide +kernel
theorem dX12_worthAt_99 : decode cX12_worthAt 99 = .ok (.iconst 0, 1) := by decide +kernel
theorem dX12_worthAt_100 : decode cX12_worthAt 100 = .ok (.iastore, 1) := by decide +kernel
theorem dX12_worthAt_101 : decode cX12_worthAt 101 = .ok (.goto 33, 3) := by decide +kernel
theorem dX12_worthAt_104 : decode cX12_worthAt 104 = .ok (.iinc 2 (-1), 3) := by decide +kernel
theorem dX12_worthAt_107 : decode cX12_worthAt 107 = .ok (.aload_n 0, 1) := by decide +kernel
theorem dX12_worthAt_108 : decode cX12_worthAt 108 = .ok (.getfield 112, 3) := by decide +kernel
theorem dX12_worthAt_111 : decode cX12_worthAt 111 = .ok (.iload_n 2, 1) := by decide +kernel
theorem dX12_worthAt_112 : decode cX12_worthAt 112 = .ok (.iconst 1, 1) := by decide +kernel
theorem dX12_worthAt_113 : decode cX12_worthAt 113 = .ok (.isub, 1) := by decide +kernel
theorem dX12_worthAt_114 : decode cX12_worthAt 114 = .ok (.iload 4, 2) := by decide +kernel
theorem dX12_worthAt_116 : decode cX12_worthAt 116 = .ok (.aload_n 0, 1) := by decide +kernel
theorem dX12_worthAt_117 : decode cX12_worthAt 117 = .ok (.getfield 112, 3) := by decide +kernel
theorem dX12_worthAt_120 : decode cX12_worthAt 120 = .ok (.iload_n 2, 1) := by decide +kernel
theorem dX12_worthAt_121 : decode cX12_worthAt 121 = .ok (.iconst 1, 1) := by decide +kernel
theorem dX12_worthAt_122 : decode cX12_worthAt 122 = .ok (.isub, 1) := by decide +kernel
theorem dX12_worthAt_123 : decode cX12_worthAt 123 = .ok (.iaload, 1) := by decide +kernel
theorem dX12_worthAt_124 : decode cX12_worthAt 124 = .ok (.aload_n 0, 1) := by decide +kernel
theorem dX12_worthAt_125 : decode cX12_worthAt 125 = .ok (.getfield 112, 3) := by decide +kernel
theorem dX12_worthAt_128 : decode cX12_worthAt 128 = .ok (.iload_n 2, 1) := by decide +kernel
theorem dX12_worthAt_129 : decode cX12_worthAt 129 = .ok (.iaload, 1) := by decide +kernel
theorem dX12_worthAt_130 : decode cX12_worthAt 130 = .ok (.invokestatic 304, 3) := by decide +kernel
theorem dX12_worthAt_133 : decode cX12_worthAt 133 = .ok (.iastore, 1) := by decide +kernel
theorem dX12_worthAt_134 : decode cX12_worthAt 134 = .ok (.iinc 3 1, 3) := by decide +kernel
theorem dX12_worthAt_137 : decode cX12_worthAt 137 = .ok (.goto (-133), 3) := by decide +kernel
theorem dX12_worthAt_140 : decode cX12_worthAt 140 = .ok (.aload_n 0, 1) := by decide +kernel
theorem dX12_worthAt_141 : decode cX12_worthAt 141 = .ok (.getfield 112, 3) := by decide +kernel
theorem dX12_worthAt_144 : decode cX12_worthAt 144 = .ok (.iconst 0, 1) := by decide +kernel
theorem dX12_worthAt_145 : decode cX12_worthAt 145 = .ok (.iaload, 1) := by decide +kernel
theorem dX12_worthAt_146 : decode cX12_worthAt 146 = .ok (.ireturn, 1) := by decide +kernel
theorem dX12_both_0 : decode cX12_both 0 = .ok (.iload_n 0, 1) := by decide +kernel
theorem dX12_both_1 : decode cX12_both 1 = .ok (.tableswitch 87 4 9 #[39, 43, 47, 51, 62, 73], 39) := by decide +kernel
theorem dX12_both_40 : decode cX12_both 40 = .ok (.iload_n 1, 1) := by decide +kernel
theorem dX12_both_41 : decode cX12_both 41 = .ok (.iload_n 2, 1) := by decide +kernel
theorem dX12_both_42 : decode cX12_both 42 = .ok (.iadd, 1) := by decide +kernel
theorem dX12_both_43 : decode cX12_both 43 = .ok (.ireturn, 1) := by decide +kernel
theorem dX12_both_44 : decode cX12_both 44 = .ok (.iload_n 1, 1) := by decide +kernel
theorem dX12_both_45 : decode cX12_both 45 = .ok (.iload_n 2, 1) := by decide +kernel
theorem dX12_both_46 : decode cX12_both 46 = .ok (.isub, 1) := by decide +kernel
theorem dX12_both_47 : decode cX12_both 47 = .ok (.ireturn, 1) := by decide +kernel
theorem dX12_both_48 : decode cX12_both 48 = .ok (.iload_n 1, 1) := by decide +kernel
theorem dX12_both_49 : decode cX12_both 49 = .ok (.iload_n 2, 1) := by decide +kernel
theorem dX12_both_50 : decode cX12_both 50 = .ok (.imul, 1) := by decide +kernel
theorem dX12_both_51 : decode cX12_both 51 = .ok (.ireturn, 1) := by decide +kernel
theorem dX12_both_52 : decode cX12_both 52 = .ok (.iload_n 1, 1) := by decide +kernel
theorem dX12_both_53 : decode cX12_both 53 = .ok (.iload_n 2, 1) := by decide +kernel
theorem dX12_both_54 : decode cX12_both 54 = .ok (.if_icmp .ge 7, 3) := by decide +kernel
theorem dX12_both_57 : decode cX12_both 57 = .ok (.iconst 1, 1) := by decide +kernel
theorem dX12_both_58 : decode cX12_both 58 = .ok (.goto 4, 3) := by decide +kernel
theorem dX12_both_61 : decode cX12_both 61 = .ok (.iconst 0, 1) := by decide +kernel
theorem dX12_both_62 : decode cX12_both 62 = .ok (.ireturn, 1) := by decide +kernel
theorem dX12_both_63 : decode cX12_both 63 = .ok (.iload_n 1, 1) := by decide +kernel
theorem dX12_both_64 : decode cX12_both 64 = .ok (.iload_n 2, 1) := by decide +kernel
theorem dX12_both_65 : decode cX12_both 65 = .ok (.if_icmp .ne 7, 3) := by decide +kernel
theorem dX12_both_68 : decode cX12_both 68 = .ok (.iconst 1, 1) := by decide +kernel
theorem dX12_both_69 : decode cX12_both 69 = .ok (.goto 4, 3) := by decide +kernel
theorem dX12_both_72 : decode cX12_both 72 = .ok (.iconst 0, 1) := by decide +kernel
theorem dX12_both_73 : decode cX12_both 73 = .ok (.ireturn, 1) := by decide +kernel
theorem dX12_both_74 : decode cX12_both 74 = .ok (.iload_n 1, 1) := by decide +kernel
theorem dX12_both_75 : decode cX12_both 75 = .ok (.ifCond .eq 11, 3) := by decide +kernel
theorem dX12_both_78 : decode cX12_both 78 = .ok (.iload_n 2, 1) := by decide +kernel
theorem dX12_both_79 : decode cX12_both 79 = .ok (.ifCond .eq 7, 3) := by decide +kernel
theorem dX12_both_82 : decode cX12_both 82 = .ok (.iconst 1, 1) := by decide +kernel
theorem dX12_both_83 : decode cX12_both 83 = .ok (.goto 4, 3) := by decide +kernel
theorem dX12_both_86 : decode cX12_both 86 = .ok (.iconst 0, 1) := by decide +kernel
theorem dX12_both_87 : decode cX12_both 87 = .ok (.ireturn, 1) := by decide +kernel
theorem dX12_both_88 : decode cX12_both 88 = .ok (.iload_n 1, 1) := by decide +kernel
theorem dX12_both_89 : decode cX12_both 89 = .ok (.ifCond .ne 7, 3) := by decide +kernel
theorem dX12_both_92 : decode cX12_both 92 = .ok (.iload_n 2, 1) := by decide +kernel
theorem dX12_both_93 : decode cX12_both 93 = .ok (.ifCond .eq 7, 3) := by decide +kernel
theorem dX12_both_96 : decode cX12_both 96 = .ok (.iconst 1, 1) := by decide +kernel
theorem dX12_both_97 : decode cX12_both 97 = .ok (.goto 4, 3) := by decide +kernel
theorem dX12_both_100 : decode cX12_both 100 = .ok (.iconst 0, 1) := by decide +kernel
theorem dX12_both_101 : decode cX12_both 101 = .ok (.ireturn, 1) := by decide +kernel
theorem dX12_copies_0 : decode cX12_copies 0 = .ok (.iconst 0, 1) := by decide +kernel
theorem dX12_copies_1 : decode cX12_copies 1 = .ok (.istore 4, 2) := by decide +kernel
theorem dX12_copies_3 : decode cX12_copies 3 = .ok (.iload 4, 2) := by decide +kernel
theorem dX12_copies_5 : decode cX12_copies 5 = .ok (.iload_n 3, 1) := by decide +kernel
theorem dX12_copies_6 : decode cX12_copies 6 = .ok (.if_icmp .ge 35, 3) := by decide +kernel
theorem dX12_copies_9 : decode cX12_copies 9 = .ok (.aload_n 0, 1) := by decide +kernel
theorem dX12_copies_10 : decode cX12_copies 10 = .ok (.getfield 115, 3) := by decide +kernel
theorem dX12_copies_13 : decode cX12_copies 13 = .ok (.sipush 128, 3) := by decide +kernel
theorem dX12_copies_16 : decode cX12_copies 16 = .ok (.iload_n 2, 1) := by decide +kernel
theorem dX12_copies_17 : decode cX12_copies 17 = .ok (.imul, 1) := by decide +kernel
theorem dX12_copies_18 : decode cX12_copies 18 = .ok (.iload 4, 2) := by decide +kernel
theorem dX12_copies_20 : decode cX12_copies 20 = .ok (.iadd, 1) := by decide +kernel
theorem dX12_copies_21 : decode cX12_copies 21 = .ok (.aload_n 0, 1) := by decide +kernel
theorem dX12_copies_22 : decode cX12_copies 22 = .ok (.getfield 115, 3) := by decide +kernel
theorem dX12_copies_25 : decode cX12_copies 25 = .ok (.sipush 128, 3) := by decide +kernel
theorem dX12_copies_28 : decode cX12_copies 28 = .ok (.iload_n 1, 1) := by decide +kernel
theorem dX12_copies_29 : decode cX12_copies 29 = .ok (.imul, 1) := by decide +kernel
theorem dX12_copies_30 : decode cX12_copies 30 = .ok (.iload 4, 2) := by decide +kernel
theorem dX12_copies_32 : decode cX12_copies 32 = .ok (.iadd, 1) := by decide +kernel
theorem dX12_copies_33 : decode cX12_copies 33 = .ok (.iaload, 1) := by decide +kernel
theorem dX12_copies_34 : decode cX12_copies 34 = .ok (.iastore, 1) := by decide +kernel
theorem dX12_copies_35 : decode cX12_copies 35 = .ok (.iinc 4 1, 3) := by decide +kernel
theorem dX12_copies_38 : decode cX12_copies 38 = .ok (.goto (-35), 3) := by decide +kernel
theorem dX12_copies_41 : decode cX12_copies 41 = .ok (.return_, 1) := by decide +kernel
theorem dX12_keeps_0 : decode cX12_keeps 0 = .ok (.aload_n 0, 1) := by decide +kernel
theorem dX12_keeps_1 : decode cX12_keeps 1 = .ok (.getfield 230, 3) := by decide +kernel
theorem dX12_keeps_4 : decode cX12_keeps 4 = .ok (.bipush 20, 2) := by decide +kernel
theorem dX12_keeps_6 : decode cX12_keeps 6 = .ok (.if_icmp .ne 41, 3) := by decide +kernel
theorem dX12_keeps_9 : decode cX12_keeps 9 = .ok (.iconst 1, 1) := by decide +kernel
theorem dX12_keeps_10 : decode cX12_keeps 10 = .ok (.istore_n 1, 1) := by decide +kernel
theorem dX12_keeps_11 : decode cX12_keeps 11 = .ok (.iload_n 1, 1) := by decide +kernel
theorem dX12_keeps_12 : decode cX12_keeps 12 = .ok (.bipush 20, 2) := by decide +kernel
theorem dX12_keeps_14 : decode cX12_keeps 14 = .ok (.if_icmp .ge 23, 3) := by decide +kernel
theorem dX12_keeps_17 : decode cX12_keeps 17 = .ok (.aload_n 0, 1) := by decide +kernel
theorem dX12_keeps_18 : decode cX12_keeps 18 = .ok (.iconst 5, 1) := by decide +kernel
theorem dX12_keeps_19 : decode cX12_keeps 19 = .ok (.iload_n 1, 1) := by decide +kernel
theorem dX12_keeps_20 : decode cX12_keeps 20 = .ok (.iadd, 1) := by decide +kernel
theorem dX12_keeps_21 : decode cX12_keeps 21 = .ok (.iconst 5, 1) := by decide +kernel
theorem dX12_keeps_22 : decode cX12_keeps 22 = .ok (.iload_n 1, 1) := by decide +kernel
theorem dX12_keeps_23 : decode cX12_keeps 23 = .ok (.iadd, 1) := by decide +kernel
theorem dX12_keeps_24 : decode cX12_keeps 24 = .ok (.iconst 1, 1) := by decide +kernel
theorem dX12_keeps_25 : decode cX12_keeps 25 = .ok (.isub, 1) := by decide +kernel
theorem dX12_keeps_26 : decode cX12_keeps 26 = .ok (.bipush 121, 2) := by decide +kernel
theorem dX12_keeps_28 : decode cX12_keeps 28 = .ok (.invokevirtual 307, 3) := by decide +kernel
theorem dX12_keeps_31 : decode cX12_keeps 31 = .ok (.iinc 1 1, 3) := by decide +kernel
theorem dX12_keeps_34 : decode cX12_keeps 34 = .ok (.goto (-23), 3) := by decide +kernel
theorem dX12_keeps_37 : decode cX12_keeps 37 = .ok (.aload_n 0, 1) := by decide +kernel
theorem dX12_keeps_38 : decode cX12_keeps 38 = .ok (.dup, 1) := by decide +kernel
theorem dX12_keeps_39 : decode cX12_keeps 39 = .ok (.getfield 230, 3) := by decide +kernel
theorem dX12_keeps_42 : decode cX12_keeps 42 = .ok (.iconst 1, 1) := by decide +kernel
theorem dX12_keeps_43 : decode cX12_keeps 43 = .ok (.isub, 1) := by decide +kernel
theorem dX12_keeps_44 : decode cX12_keeps 44 = .ok (.putfield 230, 3) := by decide +kernel
theorem dX12_keeps_47 : decode cX12_keeps 47 = .ok (.aload_n 0, 1) := by decide +kernel
theorem dX12_keeps_48 : decode cX12_keeps 48 = .ok (.iconst 0, 1) := by decide +kernel
theorem dX12_keeps_49 : decode cX12_keeps 49 = .ok (.iconst 5, 1) := by decide +kernel
theorem dX12_keeps_50 : decode cX12_keeps 50 = .ok (.aload_n 0, 1) := by decide +kernel
theorem dX12_keeps_51 : decode cX12_keeps 51 = .ok (.getfield 230, 3) := by decide +kernel
theorem dX12_keeps_54 : decode cX12_keeps 54 = .ok (.iadd, 1) := by decide +kernel
theorem dX12_keeps_55 : decode cX12_keeps 55 = .ok (.bipush 121, 2) := by decide +kernel
theorem dX12_keeps_57 : decode cX12_keeps 57 = .ok (.invokevirtual 307, 3) := by decide +kernel
theorem dX12_keeps_60 : decode cX12_keeps 60 = .ok (.aload_n 0, 1) := by decide +kernel
theorem dX12_keeps_61 : decode cX12_keeps 61 = .ok (.dup, 1) := by decide +kernel
theorem dX12_keeps_62 : decode cX12_keeps 62 = .ok (.getfield 230, 3) := by decide +kernel
theorem dX12_keeps_65 : decode cX12_keeps 65 = .ok (.iconst 1, 1) := by decide +kernel
theorem dX12_keeps_66 : decode cX12_keeps 66 = .ok (.iadd, 1) := by decide +kernel
theorem dX12_keeps_67 : decode cX12_keeps 67 = .ok (.putfield 230, 3) := by decide +kernel
theorem dX12_keeps_70 : decode cX12_keeps 70 = .ok (.return_, 1) := by decide +kernel
theorem dX12_persons_0 : decode cX12_persons 0 = .ok (.aload_n 0, 1) := by decide +kernel
theorem dX12_persons_1 : decode cX12_persons 1 = .ok (.getfield 85, 3) := by decide +kernel
theorem dX12_persons_4 : decode cX12_persons 4 = .ok (.iconst 2, 1) := by decide +kernel
theorem dX12_persons_5 : decode cX12_persons 5 = .ok (.iaload, 1) := by decide +kernel
theorem dX12_persons_6 : decode cX12_persons 6 = .ok (.ireturn, 1) := by decide +kernel
theorem dX12_birds_0 : decode cX12_birds 0 = .ok (.aload_n 0, 1) := by decide +kernel
theorem dX12_birds_1 : decode cX12_birds 1 = .ok (.getfield 85, 3) := by decide +kernel
theorem dX12_birds_4 : decode cX12_birds 4 = .ok (.iconst 3, 1) := by decide +kernel
theorem dX12_birds_5 : decode cX12_birds 5 = .ok (.iaload, 1) := by decide +kernel
theorem dX12_birds_6 : decode cX12_birds 6 = .ok (.ireturn, 1) := by decide +kernel
theorem dX12_isPerson_0 : decode cX12_isPerson 0 = .ok (.iload_n 1, 1) := by decide +kernel
theorem dX12_isPerson_1 : decode cX12_isPerson 1 = .ok (.ifCond .lt 15, 3) := by decide +kernel
theorem dX12_isPerson_4 : decode cX12_isPerson 4 = .ok (.iload_n 1, 1) := by decide +kernel
theorem dX12_isPerson_5 : decode cX12_isPerson 5 = .ok (.aload_n 0, 1) := by decide +kernel
theorem dX12_isPerson_6 : decode cX12_isPerson 6 = .ok (.invokevirtual 226, 3) := by decide +kernel
theorem dX12_isPerson_9 : decode cX12_isPerson 9 = .ok (.if_icmp .ge 7, 3) := by decide +kernel
theorem dX12_isPerson_12 : decode cX12_isPerson 12 = .ok (.iconst 1, 1) := by decide +kernel
theorem dX12_isPerson_13 : decode cX12_isPerson 13 = .ok (.goto 4, 3) := by decide +kernel
theorem dX12_isPerson_16 : decode cX12_isPerson 16 = .ok (.iconst 0, 1) := by decide +kernel
theorem dX12_isPerson_17 : decode cX12_isPerson 17 = .ok (.ireturn, 1) := by decide +kernel
theorem dX12_isBird_0 : decode cX12_isBird 0 = .ok (.iload_n 1, 1) := by decide +kernel
theorem dX12_isBird_1 : decode cX12_isBird 1 = .ok (.ifCond .lt 15, 3) := by decide +kernel
theorem dX12_isBird_4 : decode cX12_isBird 4 = .ok (.iload_n 1, 1) := by decide +kernel
theorem dX12_isBird_5 : decode cX12_isBird 5 = .ok (.aload_n 0, 1) := by decide +kernel
theorem dX12_isBird_6 : decode cX12_isBird 6 = .ok (.invokevirtual 311, 3) := by decide +kernel
theorem dX12_isBird_9 : decode cX12_isBird 9 = .ok (.if_icmp .ge 7, 3) := by decide +kernel
theorem dX12_isBird_12 : decode cX12_isBird 12 = .ok (.iconst 1, 1) := by decide +kernel
theorem dX12_isBird_13 : decode cX12_isBird 13 = .ok (.goto 4, 3) := by decide +kernel
theorem dX12_isBird_16 : decode cX12_isBird 16 = .ok (.iconst 0, 1) := by decide +kernel
theorem dX12_isBird_17 : decode cX12_isBird 17 = .ok (.ireturn, 1) := by decide +kernel
theorem dX12_isHour_0 : decode cX12_isHour 0 = .ok (.iload_n 0, 1) := by decide +kernel
theorem dX12_isHour_1 : decode cX12_isHour 1 = .ok (.ifCond .lt 13, 3) := by decide +kernel
theorem dX12_isHour_4 : decode cX12_isHour 4 = .ok (.iload_n 0, 1) := by decide +kernel
theorem dX12_isHour_5 : decode cX12_isHour 5 = .ok (.bipush 24, 2) := by decide +kernel
theorem dX12_isHour_7 : decode cX12_isHour 7 = .ok (.if_icmp .ge 7, 3) := by decide +kernel
theorem dX12_isHour_10 : decode cX12_isHour 10 = .ok (.iconst 1, 1) := by decide +kernel
theorem dX12_isHour_11 : decode cX12_isHour 11 = .ok (.goto 4, 3) := by decide +kernel
theorem dX12_isHour_14 : decode cX12_isHour 14 = .ok (.iconst 0, 1) := by decide +kernel
theorem dX12_isHour_15 : decode cX12_isHour 15 = .ok (.ireturn, 1) := by decide +kernel
theorem dX12_isShot_0 : decode cX12_isShot 0 = .ok (.aload_n 0, 1) := by decide +kernel
theorem dX12_isShot_1 : decode cX12_isShot 1 = .ok (.getfield 115, 3) := by decide +kernel
theorem dX12_isShot_4 : decode cX12_isShot 4 = .ok (.bipush 120, 2) := by decide +kernel
theorem dX12_isShot_6 : decode cX12_isShot 6 = .ok (.iaload, 1) := by decide +kernel
theorem dX12_isShot_7 : decode cX12_isShot 7 = .ok (.iload_n 1, 1) := by decide +kernel
theorem dX12_isShot_8 : decode cX12_isShot 8 = .ok (.ishr, 1) := by decide +kernel
theorem dX12_isShot_9 : decode cX12_isShot 9 = .ok (.iconst 1, 1) := by decide +kernel
theorem dX12_isShot_10 : decode cX12_isShot 10 = .ok (.iand, 1) := by decide +kernel
theorem dX12_isShot_11 : decode cX12_isShot 11 = .ok (.iconst 1, 1) := by decide +kernel
theorem dX12_isShot_12 : decode cX12_isShot 12 = .ok (.if_icmp .ne 7, 3) := by decide +kernel
theorem dX12_isShot_15 : decode cX12_isShot 15 = .ok (.iconst 1, 1) := by decide +kernel
theorem dX12_isShot_16 : decode cX12_isShot 16 = .ok (.goto 4, 3) := by decide +kernel
theorem dX12_isShot_19 : decode cX12_isShot 19 = .ok (.iconst 0, 1) := by decide +kernel
theorem dX12_isShot_20 : decode cX12_isShot 20 = .ok (.ireturn, 1) := by decide +kernel
theorem dX12_kindOf_0 : decode cX12_kindOf 0 = .ok (.aload_n 0, 1) := by decide +kernel
theorem dX12_kindOf_1 : decode cX12_kindOf 1 = .ok (.getfield 85, 3) := by decide +kernel
theorem dX12_kindOf_4 : decode cX12_kindOf 4 = .ok (.bipush 7, 2) := by decide +kernel
theorem dX12_kindOf_6 : decode cX12_kindOf 6 = .ok (.iconst 2, 1) := by decide +kernel
theorem dX12_kindOf_7 : decode cX12_kindOf 7 = .ok (.iload_n 1, 1) := by decide +kernel
theorem dX12_kindOf_8 : decode cX12_kindOf 8 = .ok (.imul, 1) := by decide +kernel
theorem dX12_kindOf_9 : decode cX12_kindOf 9 = .ok (.iadd, 1) := by decide +kernel
theorem dX12_kindOf_10 : decode cX12_kindOf 10 = .ok (.iaload, 1) := by decide +kernel
theorem dX12_kindOf_11 : decode cX12_kindOf 11 = .ok (.ireturn, 1) := by decide +kernel
theorem dX12_apart_0 : decode cX12_apart 0 = .ok (.iload_n 0, 1) := by decide +kernel
theorem dX12_apart_1 : decode cX12_apart 1 = .ok (.bipush 8, 2) := by decide +kernel
theorem dX12_apart_3 : decode cX12_apart 3 = .ok (.irem, 1) := by decide +kernel
theorem dX12_apart_4 : decode cX12_apart 4 = .ok (.iload_n 1, 1) := by decide +kernel
theorem dX12_apart_5 : decode cX12_apart 5 = .ok (.bipush 8, 2) := by decide +kernel
theorem dX12_apart_7 : decode cX12_apart 7 = .ok (.irem, 1) := by decide +kernel
theorem dX12_apart_8 : decode cX12_apart 8 = .ok (.isub, 1) := by decide +kernel
theorem dX12_apart_9 : decode cX12_apart 9 = .ok (.istore_n 2, 1) := by decide +kernel
theorem dX12_apart_10 : decode cX12_apart 10 = .ok (.iload_n 0, 1) := by decide +kernel
theorem dX12_apart_11 : decode cX12_apart 11 = .ok (.bipush 8, 2) := by decide +kernel
theorem dX12_apart_13 : decode cX12_apart 13 = .ok (.idiv, 1) := by decide +kernel
theorem dX12_apart_14 : decode cX12_apart 14 = .ok (.iload_n 1, 1) := by decide +kernel
theorem dX12_apart_15 : decode cX12_apart 15 = .ok (.bipush 8, 2) := by decide +kernel
theorem dX12_apart_17 : decode cX12_apart 17 = .ok (.idiv, 1) := by decide +kernel
theorem dX12_apart_18 : decode cX12_apart 18 = .ok (.isub, 1) := by decide +kernel
theorem dX12_apart_19 : decode cX12_apart 19 = .ok (.istore_n 3, 1) := by decide +kernel
theorem dX12_apart_20 : decode cX12_apart 20 = .ok (.iload_n 2, 1) := by decide +kernel
theorem dX12_apart_21 : decode cX12_apart 21 = .ok (.ifCond .ge 8, 3) := by decide +kernel
theorem dX12_apart_24 : decode cX12_apart 24 = .ok (.iload_n 2, 1) := by decide +kernel
theorem dX12_apart_25 : decode cX12_apart 25 = .ok (.ineg, 1) := by decide +kernel
theorem dX12_apart_26 : decode cX12_apart 26 = .ok (.goto 4, 3) := by decide +kernel
theorem dX12_apart_29 : decode cX12_apart 29 = .ok (.iload_n 2, 1) := by decide +kernel
theorem dX12_apart_30 : decode cX12_apart 30 = .ok (.iload_n 3, 1) := by decide +kernel
theorem dX12_apart_31 : decode cX12_apart 31 = .ok (.ifCond .ge 8, 3) := by decide +kernel
theorem dX12_apart_34 : decode cX12_apart 34 = .ok (.iload_n 3, 1) := by decide +kernel
theorem dX12_apart_35 : decode cX12_apart 35 = .ok (.ineg, 1) := by decide +kernel
theorem dX12_apart_36 : decode cX12_apart 36 = .ok (.goto 4, 3) := by decide +kernel
theorem dX12_apart_39 : decode cX12_apart 39 = .ok (.iload_n 3, 1) := by decide +kernel
theorem dX12_apart_40 : decode cX12_apart 40 = .ok (.iadd, 1) := by decide +kernel
theorem dX12_apart_41 : decode cX12_apart 41 = .ok (.ireturn, 1) := by decide +kernel
theorem dX12_placeAt_0 : decode cX12_placeAt 0 = .ok (.iload_n 2, 1) := by decide +kernel
theorem dX12_placeAt_1 : decode cX12_placeAt 1 = .ok (.aload_n 0, 1) := by decide +kernel
theorem dX12_placeAt_2 : decode cX12_placeAt 2 = .ok (.getfield 125, 3) := by decide +kernel
theorem dX12_placeAt_5 : decode cX12_placeAt 5 = .ok (.if_icmp .lt 29, 3) := by decide +kernel
theorem dX12_placeAt_8 : decode cX12_placeAt 8 = .ok (.iload_n 2, 1) := by decide +kernel
theorem dX12_placeAt_9 : decode cX12_placeAt 9 = .ok (.aload_n 0, 1) := by decide +kernel
theorem dX12_placeAt_10 : decode cX12_placeAt 10 = .ok (.getfield 128, 3) := by decide +kernel
theorem dX12_placeAt_13 : decode cX12_placeAt 13 = .ok (.if_icmp .gt 21, 3) := by decide +kernel
theorem dX12_placeAt_16 : decode cX12_placeAt 16 = .ok (.aload_n 0, 1) := by decide +kernel
theorem dX12_placeAt_17 : decode cX12_placeAt 17 = .ok (.getfield 122, 3) := by decide +kernel
theorem dX12_placeAt_20 : decode cX12_placeAt 20 = .ok (.iload_n 1, 1) := by decide +kernel
theorem dX12_placeAt_21 : decode cX12_placeAt 21 = .ok (.iaload, 1) := by decide +kernel
theorem dX12_placeAt_22 : decode cX12_placeAt 22 = .ok (.ifCond .lt 12, 3) := by decide +kernel
theorem dX12_placeAt_25 : decode cX12_placeAt 25 = .ok (.aload_n 0, 1) := by decide +kernel
theorem dX12_placeAt_26 : decode cX12_placeAt 26 = .ok (.getfield 122, 3) := by decide +kernel
theorem dX12_placeAt_29 : decode cX12_placeAt 29 = .ok (.iload_n 1, 1) := by decide +kernel
theorem dX12_placeAt_30 : decode cX12_placeAt 30 = .ok (.iaload, 1) := by decide +kernel
theorem dX12_placeAt_31 : decode cX12_placeAt 31 = .ok (.goto 17, 3) := by decide +kernel
theorem dX12_placeAt_34 : decode cX12_placeAt 34 = .ok (.aload_n 0, 1) := by decide +kernel
theorem dX12_placeAt_35 : decode cX12_placeAt 35 = .ok (.getfield 85, 3) := by decide +kernel
theorem dX12_placeAt_38 : decode cX12_placeAt 38 = .ok (.bipush 19, 2) := by decide +kernel
theorem dX12_placeAt_40 : decode cX12_placeAt 40 = .ok (.bipush 24, 2) := by decide +kernel
theorem dX12_placeAt_42 : decode cX12_placeAt 42 = .ok (.iload_n 1, 1) := by decide +kernel
theorem dX12_placeAt_43 : decode cX12_placeAt 43 = .ok (.imul, 1) := by decide +kernel
theorem dX12_placeAt_44 : decode cX12_placeAt 44 = .ok (.iadd, 1) := by decide +kernel
theorem dX12_placeAt_45 : decode cX12_placeAt 45 = .ok (.iload_n 2, 1) := by decide +kernel
theorem dX12_placeAt_46 : decode cX12_placeAt 46 = .ok (.iadd, 1) := by decide +kernel
theorem dX12_placeAt_47 : decode cX12_placeAt 47 = .ok (.iaload, 1) := by decide +kernel
theorem dX12_placeAt_48 : decode cX12_placeAt 48 = .ok (.ireturn, 1) := by decide +kernel
theorem dX12_standsAsTold_0 : decode cX12_standsAsTold 0 = .ok (.iconst 0, 1) := by decide +kernel
theorem dX12_standsAsTold_1 : decode cX12_standsAsTold 1 = .ok (.istore_n 1, 1) := by decide +kernel
theorem dX12_standsAsTold_2 : decode cX12_standsAsTold 2 = .ok (.iload_n 1, 1) := by decide +kernel
theorem dX12_standsAsTold_3 : decode cX12_standsAsTold 3 = .ok (.bipush 6, 2) := by decide +kernel
theorem dX12_standsAsTold_5 : decode cX12_standsAsTold 5 = .ok (.if_icmp .ge 16, 3) := by decide +kernel
theorem dX12_standsAsTold_8 : decode cX12_standsAsTold 8 = .ok (.aload_n 0, 1) := by decide +kernel
theorem dX12_standsAsTold_9 : decode cX12_standsAsTold 9 = .ok (.getfield 122, 3) := by decide +kernel
theorem dX12_standsAsTold_12 : decode cX12_standsAsTold 12 = .ok (.iload_n 1, 1) := by decide +kernel
theorem dX12_standsAsTold_13 : decode cX12_standsAsTold 13 = .ok (.iconst (-1), 1) := by decide +kernel
theorem dX12_standsAsTold_14 : decode cX12_standsAsTold 14 = .ok (.iastore, 1) := by decide +kernel
theorem dX12_standsAsTold_15 : decode cX12_standsAsTold 15 = .ok (.iinc 1 1, 3) := by decide +kernel
theorem dX12_standsAsTold_18 : decode cX12_standsAsTold 18 = .ok (.goto (-16), 3) := by decide +kernel
theorem dX12_standsAsTold_21 : decode cX12_standsAsTold 21 = .ok (.aload_n 0, 1) := by decide +kernel
theorem dX12_standsAsTold_22 : decode cX12_standsAsTold 22 = .ok (.bipush 24, 2) := by decide +kernel
theorem dX12_standsAsTold_24 : decode cX12_standsAsTold 24 = .ok (.putfield 125, 3) := by decide +kernel
theorem dX12_standsAsTold_27 : decode cX12_standsAsTold 27 = .ok (.aload_n 0, 1) := by decide +kernel
theorem dX12_standsAsTold_28 : decode cX12_standsAsTold 28 = .ok (.iconst (-1), 1) := by decide +kernel
theorem dX12_standsAsTold_29 : decode cX12_standsAsTold 29 = .ok (.putfield 128, 3) := by decide +kernel
theorem dX12_standsAsTold_32 : decode cX12_standsAsTold 32 = .ok (.return_, 1) := by decide +kernel
theorem dX12_standsIn_0 : decode cX12_standsIn 0 = .ok (.aload_n 0, 1) := by decide +kernel
theorem dX12_standsIn_1 : decode cX12_standsIn 1 = .ok (.invokevirtual 314, 3) := by decide +kernel
theorem dX12_standsIn_4 : decode cX12_standsIn 4 = .ok (.aload_n 0, 1) := by decide +kernel
theorem dX12_standsIn_5 : decode cX12_standsIn 5 = .ok (.iload_n 1, 1) := by decide +kernel
theorem dX12_standsIn_6 : decode cX12_standsIn 6 = .ok (.putfield 125, 3) := by decide +kernel
theorem dX12_standsIn_9 : decode cX12_standsIn 9 = .ok (.aload_n 0, 1) := by decide +kernel
theorem dX12_standsIn_10 : decode cX12_standsIn 10 = .ok (.iload_n 2, 1) := by decide +kernel
theorem dX12_standsIn_11 : decode cX12_standsIn 11 = .ok (.putfield 128, 3) := by decide +kernel
theorem dX12_standsIn_14 : decode cX12_standsIn 14 = .ok (.return_, 1) := by decide +kernel
theorem dX12_clip_0 : decode cX12_clip 0 = .ok (.iload_n 1, 1) := by decide +kernel
theorem dX12_clip_1 : decode cX12_clip 1 = .ok (.ifCond .ge 7, 3) := by decide +kernel
theorem dX12_clip_4 : decode cX12_clip 4 = .ok (.iconst 0, 1) := by decide +kernel
theorem dX12_clip_5 : decode cX12_clip 5 = .ok (.goto 13, 3) := by decide +kernel
theorem dX12_clip_8 : decode cX12_clip 8 = .ok (.iload_n 1, 1) := by decide +kernel
theorem dX12_clip_9 : decode cX12_clip 9 = .ok (.iload_n 2, 1) := by decide +kernel
theorem dX12_clip_10 : decode cX12_clip 10 = .ok (.if_icmp .le 7, 3) := by decide +kernel
theorem dX12_clip_13 : decode cX12_clip 13 = .ok (.iload_n 2, 1) := by decide +kernel
theorem dX12_clip_14 : decode cX12_clip 14 = .ok (.goto 4, 3) := by decide +kernel
theorem dX12_clip_17 : decode cX12_clip 17 = .ok (.iload_n 1, 1) := by decide +kernel
theorem dX12_clip_18 : decode cX12_clip 18 = .ok (.ireturn, 1) := by decide +kernel
theorem dX12_fogAt_0 : decode cX12_fogAt 0 = .ok (.aload_n 0, 1) := by decide +kernel
theorem dX12_fogAt_1 : decode cX12_fogAt 1 = .ok (.getfield 85, 3) := by decide +kernel
theorem dX12_fogAt_4 : decode cX12_fogAt 4 = .ok (.bipush 6, 2) := by decide +kernel
theorem dX12_fogAt_6 : decode cX12_fogAt 6 = .ok (.iaload, 1) := by decide +kernel
theorem dX12_fogAt_7 : decode cX12_fogAt 7 = .ok (.ifCond .ge 6, 3) := by decide +kernel
theorem dX12_fogAt_10 : decode cX12_fogAt 10 = .ok (.bipush 14, 2) := by decide +kernel
theorem dX12_fogAt_12 : decode cX12_fogAt 12 = .ok (.ireturn, 1) := by decide +kernel
theorem dX12_fogAt_13 : decode cX12_fogAt 13 = .ok (.aload_n 0, 1) := by decide +kernel
theorem dX12_fogAt_14 : decode cX12_fogAt 14 = .ok (.getfield 109, 3) := by decide +kernel
