theorem dX11_keep_265 : decode cX11_keep 265 = .ok (.bastore, 1) := by decide +kernel
theorem dX11_keep_266 : decode cX11_keep 266 = .ok (.bipush 64, 2) := by decide +kernel
theorem dX11_keep_268 : decode cX11_keep 268 = .ok (.iload_n 1, 1) := by decide +kernel
theorem dX11_keep_269 : decode cX11_keep 269 = .ok (.imul, 1) := by decide +kernel
theorem dX11_keep_270 : decode cX11_keep 270 = .ok (.istore_n 2, 1) := by decide +kernel
theorem dX11_keep_271 : decode cX11_keep 271 = .ok (.iload_n 2, 1) := by decide +kernel
theorem dX11_keep_272 : decode cX11_keep 272 = .ok (.bipush 64, 2) := by decide +kernel
theorem dX11_keep_274 : decode cX11_keep 274 = .ok (.iload_n 1, 1) := by decide +kernel
theorem dX11_keep_275 : decode cX11_keep 275 = .ok (.imul, 1) := by decide +kernel
theorem dX11_keep_276 : decode cX11_keep 276 = .ok (.bipush 64, 2) := by decide +kernel
theorem dX11_keep_278 : decode cX11_keep 278 = .ok (.iadd, 1) := by decide +kernel
theorem dX11_keep_279 : decode cX11_keep 279 = .ok (.if_icmp .ge 30, 3) := by decide +kernel
theorem dX11_keep_282 : decode cX11_keep 282 = .ok (.aload_n 0, 1) := by decide +kernel
theorem dX11_keep_283 : decode cX11_keep 283 = .ok (.getfield 134, 3) := by decide +kernel
theorem dX11_keep_286 : decode cX11_keep 286 = .ok (.iload_n 1, 1) := by decide +kernel
theorem dX11_keep_287 : decode cX11_keep 287 = .ok (.baload, 1) := by decide +kernel
theorem dX11_keep_288 : decode cX11_keep 288 = .ok (.ifCond .eq 21, 3) := by decide +kernel
theorem dX11_keep_291 : decode cX11_keep 291 = .ok (.aload_n 0, 1) := by decide +kernel
theorem dX11_keep_292 : decode cX11_keep 292 = .ok (.getfield 131, 3) := by decide +kernel
theorem dX11_keep_295 : decode cX11_keep 295 = .ok (.iload_n 2, 1) := by decide +kernel
theorem dX11_keep_296 : decode cX11_keep 296 = .ok (.aload_n 0, 1) := by decide +kernel
theorem dX11_keep_297 : decode cX11_keep 297 = .ok (.getfield 86, 3) := by decide +kernel
theorem dX11_keep_300 : decode cX11_keep 300 = .ok (.iload_n 2, 1) := by decide +kernel
theorem dX11_keep_301 : decode cX11_keep 301 = .ok (.baload, 1) := by decide +kernel
theorem dX11_keep_302 : decode cX11_keep 302 = .ok (.bastore, 1) := by decide +kernel
theorem dX11_keep_303 : decode cX11_keep 303 = .ok (.iinc 2 1, 3) := by decide +kernel
theorem dX11_keep_306 : decode cX11_keep 306 = .ok (.goto (-35), 3) := by decide +kernel
theorem dX11_keep_309 : decode cX11_keep 309 = .ok (.iinc 1 1, 3) := by decide +kernel
theorem dX11_keep_312 : decode cX11_keep 312 = .ok (.goto (-66), 3) := by decide +kernel
theorem dX11_keep_315 : decode cX11_keep 315 = .ok (.return_, 1) := by decide +kernel
theorem dX11_free_0 : decode cX11_free 0 = .ok (.aload_n 0, 1) := by decide +kernel
theorem dX11_free_1 : decode cX11_free 1 = .ok (.getfield 162, 3) := by decide +kernel
theorem dX11_free_4 : decode cX11_free 4 = .ok (.aload_n 0, 1) := by decide +kernel
theorem dX11_free_5 : decode cX11_free 5 = .ok (.getfield 199, 3) := by decide +kernel
theorem dX11_free_8 : decode cX11_free 8 = .ok (.aload_n 0, 1) := by decide +kernel
theorem dX11_free_9 : decode cX11_free 9 = .ok (.getfield 202, 3) := by decide +kernel
theorem dX11_free_12 : decode cX11_free 12 = .ok (.isub, 1) := by decide +kernel
theorem dX11_free_13 : decode cX11_free 13 = .ok (.isub, 1) := by decide +kernel
theorem dX11_free_14 : decode cX11_free 14 = .ok (.ireturn, 1) := by decide +kernel
theorem dX11_lasts_0 : decode cX11_lasts 0 = .ok (.aload_n 0, 1) := by decide +kernel
theorem dX11_lasts_1 : decode cX11_lasts 1 = .ok (.getfield 13, 3) := by decide +kernel
theorem dX11_lasts_4 : decode cX11_lasts 4 = .ok (.ifCond .ne 15, 3) := by decide +kernel
theorem dX11_lasts_7 : decode cX11_lasts 7 = .ok (.aload_n 0, 1) := by decide +kernel
theorem dX11_lasts_8 : decode cX11_lasts 8 = .ok (.iconst (-1), 1) := by decide +kernel
theorem dX11_lasts_9 : decode cX11_lasts 9 = .ok (.putfield 13, 3) := by decide +kernel
theorem dX11_lasts_12 : decode cX11_lasts 12 = .ok (.aload_n 0, 1) := by decide +kernel
theorem dX11_lasts_13 : decode cX11_lasts 13 = .ok (.iconst 0, 1) := by decide +kernel
theorem dX11_lasts_14 : decode cX11_lasts 14 = .ok (.putfield 7, 3) := by decide +kernel
theorem dX11_lasts_17 : decode cX11_lasts 17 = .ok (.iconst 0, 1) := by decide +kernel
theorem dX11_lasts_18 : decode cX11_lasts 18 = .ok (.ireturn, 1) := by decide +kernel
theorem dX11_lasts_19 : decode cX11_lasts 19 = .ok (.aload_n 0, 1) := by decide +kernel
theorem dX11_lasts_20 : decode cX11_lasts 20 = .ok (.aload_n 0, 1) := by decide +kernel
theorem dX11_lasts_21 : decode cX11_lasts 21 = .ok (.getfield 13, 3) := by decide +kernel
theorem dX11_lasts_24 : decode cX11_lasts 24 = .ok (.ifCond .ge 10, 3) := by decide +kernel
theorem dX11_lasts_27 : decode cX11_lasts 27 = .ok (.aload_n 0, 1) := by decide +kernel
theorem dX11_lasts_28 : decode cX11_lasts 28 = .ok (.getfield 13, 3) := by decide +kernel
theorem dX11_lasts_31 : decode cX11_lasts 31 = .ok (.goto 9, 3) := by decide +kernel
theorem dX11_lasts_34 : decode cX11_lasts 34 = .ok (.aload_n 0, 1) := by decide +kernel
theorem dX11_lasts_35 : decode cX11_lasts 35 = .ok (.getfield 13, 3) := by decide +kernel
theorem dX11_lasts_38 : decode cX11_lasts 38 = .ok (.iconst 1, 1) := by decide +kernel
theorem dX11_lasts_39 : decode cX11_lasts 39 = .ok (.isub, 1) := by decide +kernel
theorem dX11_lasts_40 : decode cX11_lasts 40 = .ok (.putfield 13, 3) := by decide +kernel
theorem dX11_lasts_43 : decode cX11_lasts 43 = .ok (.iconst 1, 1) := by decide +kernel
theorem dX11_lasts_44 : decode cX11_lasts 44 = .ok (.ireturn, 1) := by decide +kernel
theorem dX11_isLive_0 : decode cX11_isLive 0 = .ok (.aload_n 0, 1) := by decide +kernel
theorem dX11_isLive_1 : decode cX11_isLive 1 = .ok (.getfield 24, 3) := by decide +kernel
theorem dX11_isLive_4 : decode cX11_isLive 4 = .ok (.iload_n 1, 1) := by decide +kernel
theorem dX11_isLive_5 : decode cX11_isLive 5 = .ok (.aload_n 0, 1) := by decide +kernel
theorem dX11_isLive_6 : decode cX11_isLive 6 = .ok (.getfield 162, 3) := by decide +kernel
theorem dX11_isLive_9 : decode cX11_isLive 9 = .ok (.irem, 1) := by decide +kernel
theorem dX11_isLive_10 : decode cX11_isLive 10 = .ok (.iaload, 1) := by decide +kernel
theorem dX11_isLive_11 : decode cX11_isLive 11 = .ok (.istore_n 2, 1) := by decide +kernel
theorem dX11_isLive_12 : decode cX11_isLive 12 = .ok (.iload_n 1, 1) := by decide +kernel
theorem dX11_isLive_13 : decode cX11_isLive 13 = .ok (.aload_n 0, 1) := by decide +kernel
theorem dX11_isLive_14 : decode cX11_isLive 14 = .ok (.getfield 202, 3) := by decide +kernel
theorem dX11_isLive_17 : decode cX11_isLive 17 = .ok (.if_icmp .lt 40, 3) := by decide +kernel
theorem dX11_isLive_20 : decode cX11_isLive 20 = .ok (.iload_n 1, 1) := by decide +kernel
theorem dX11_isLive_21 : decode cX11_isLive 21 = .ok (.aload_n 0, 1) := by decide +kernel
theorem dX11_isLive_22 : decode cX11_isLive 22 = .ok (.getfield 199, 3) := by decide +kernel
theorem dX11_isLive_25 : decode cX11_isLive 25 = .ok (.if_icmp .ge 32, 3) := by decide +kernel
theorem dX11_isLive_28 : decode cX11_isLive 28 = .ok (.aload_n 0, 1) := by decide +kernel
theorem dX11_isLive_29 : decode cX11_isLive 29 = .ok (.getfield 28, 3) := by decide +kernel
theorem dX11_isLive_32 : decode cX11_isLive 32 = .ok (.iload_n 2, 1) := by decide +kernel
theorem dX11_isLive_33 : decode cX11_isLive 33 = .ok (.iaload, 1) := by decide +kernel
theorem dX11_isLive_34 : decode cX11_isLive 34 = .ok (.iload_n 1, 1) := by decide +kernel
theorem dX11_isLive_35 : decode cX11_isLive 35 = .ok (.if_icmp .ne 22, 3) := by decide +kernel
theorem dX11_isLive_38 : decode cX11_isLive 38 = .ok (.iload_n 1, 1) := by decide +kernel
theorem dX11_isLive_39 : decode cX11_isLive 39 = .ok (.aload_n 0, 1) := by decide +kernel
theorem dX11_isLive_40 : decode cX11_isLive 40 = .ok (.getfield 31, 3) := by decide +kernel
theorem dX11_isLive_43 : decode cX11_isLive 43 = .ok (.iload_n 2, 1) := by decide +kernel
theorem dX11_isLive_44 : decode cX11_isLive 44 = .ok (.aload_n 0, 1) := by decide +kernel
theorem dX11_isLive_45 : decode cX11_isLive 45 = .ok (.getfield 165, 3) := by decide +kernel
theorem dX11_isLive_48 : decode cX11_isLive 48 = .ok (.idiv, 1) := by decide +kernel
theorem dX11_isLive_49 : decode cX11_isLive 49 = .ok (.iaload, 1) := by decide +kernel
theorem dX11_isLive_50 : decode cX11_isLive 50 = .ok (.if_icmp .lt 7, 3) := by decide +kernel
theorem dX11_isLive_53 : decode cX11_isLive 53 = .ok (.iconst 1, 1) := by decide +kernel
theorem dX11_isLive_54 : decode cX11_isLive 54 = .ok (.goto 4, 3) := by decide +kernel
theorem dX11_isLive_57 : decode cX11_isLive 57 = .ok (.iconst 0, 1) := by decide +kernel
theorem dX11_isLive_58 : decode cX11_isLive 58 = .ok (.ireturn, 1) := by decide +kernel
theorem dX11_oldest_0 : decode cX11_oldest 0 = .ok (.aload_n 0, 1) := by decide +kernel
theorem dX11_oldest_1 : decode cX11_oldest 1 = .ok (.getfield 202, 3) := by decide +kernel
theorem dX11_oldest_4 : decode cX11_oldest 4 = .ok (.istore_n 1, 1) := by decide +kernel
theorem dX11_oldest_5 : decode cX11_oldest 5 = .ok (.iload_n 1, 1) := by decide +kernel
theorem dX11_oldest_6 : decode cX11_oldest 6 = .ok (.aload_n 0, 1) := by decide +kernel
theorem dX11_oldest_7 : decode cX11_oldest 7 = .ok (.getfield 199, 3) := by decide +kernel
theorem dX11_oldest_10 : decode cX11_oldest 10 = .ok (.if_icmp .ge 17, 3) := by decide +kernel
theorem dX11_oldest_13 : decode cX11_oldest 13 = .ok (.aload_n 0, 1) := by decide +kernel
theorem dX11_oldest_14 : decode cX11_oldest 14 = .ok (.iload_n 1, 1) := by decide +kernel
theorem dX11_oldest_15 : decode cX11_oldest 15 = .ok (.invokevirtual 205, 3) := by decide +kernel
theorem dX11_oldest_18 : decode cX11_oldest 18 = .ok (.ifCond .ne 9, 3) := by decide +kernel
theorem dX11_oldest_21 : decode cX11_oldest 21 = .ok (.iinc 1 1, 3) := by decide +kernel
theorem dX11_oldest_24 : decode cX11_oldest 24 = .ok (.goto (-19), 3) := by decide +kernel
theorem dX11_oldest_27 : decode cX11_oldest 27 = .ok (.iload_n 1, 1) := by decide +kernel
theorem dX11_oldest_28 : decode cX11_oldest 28 = .ok (.ireturn, 1) := by decide +kernel
theorem dX11_live_0 : decode cX11_live 0 = .ok (.iconst 0, 1) := by decide +kernel
theorem dX11_live_1 : decode cX11_live 1 = .ok (.istore_n 2, 1) := by decide +kernel
theorem dX11_live_2 : decode cX11_live 2 = .ok (.aload_n 0, 1) := by decide +kernel
theorem dX11_live_3 : decode cX11_live 3 = .ok (.getfield 202, 3) := by decide +kernel
theorem dX11_live_6 : decode cX11_live 6 = .ok (.istore_n 3, 1) := by decide +kernel
theorem dX11_live_7 : decode cX11_live 7 = .ok (.iload_n 3, 1) := by decide +kernel
theorem dX11_live_8 : decode cX11_live 8 = .ok (.aload_n 0, 1) := by decide +kernel
theorem dX11_live_9 : decode cX11_live 9 = .ok (.getfield 199, 3) := by decide +kernel
theorem dX11_live_12 : decode cX11_live 12 = .ok (.if_icmp .ge 49, 3) := by decide +kernel
theorem dX11_live_15 : decode cX11_live 15 = .ok (.iload_n 2, 1) := by decide +kernel
theorem dX11_live_16 : decode cX11_live 16 = .ok (.aload_n 0, 1) := by decide +kernel
theorem dX11_live_17 : decode cX11_live 17 = .ok (.iload_n 3, 1) := by decide +kernel
theorem dX11_live_18 : decode cX11_live 18 = .ok (.invokevirtual 205, 3) := by decide +kernel
theorem dX11_live_21 : decode cX11_live 21 = .ok (.ifCond .eq 31, 3) := by decide +kernel
theorem dX11_live_24 : decode cX11_live 24 = .ok (.iload_n 1, 1) := by decide +kernel
theorem dX11_live_25 : decode cX11_live 25 = .ok (.ifCond .lt 23, 3) := by decide +kernel
theorem dX11_live_28 : decode cX11_live 28 = .ok (.aload_n 0, 1) := by decide +kernel
theorem dX11_live_29 : decode cX11_live 29 = .ok (.getfield 24, 3) := by decide +kernel
theorem dX11_live_32 : decode cX11_live 32 = .ok (.iload_n 3, 1) := by decide +kernel
theorem dX11_live_33 : decode cX11_live 33 = .ok (.aload_n 0, 1) := by decide +kernel
theorem dX11_live_34 : decode cX11_live 34 = .ok (.getfield 162, 3) := by decide +kernel
theorem dX11_live_37 : decode cX11_live 37 = .ok (.irem, 1) := by decide +kernel
theorem dX11_live_38 : decode cX11_live 38 = .ok (.iaload, 1) := by decide +kernel
theorem dX11_live_39 : decode cX11_live 39 = .ok (.aload_n 0, 1) := by decide +kernel
theorem dX11_live_40 : decode cX11_live 40 = .ok (.getfield 165, 3) := by decide +kernel
theorem dX11_live_43 : decode cX11_live 43 = .ok (.idiv, 1) := by decide +kernel
theorem dX11_live_44 : decode cX11_live 44 = .ok (.iload_n 1, 1) := by decide +kernel
theorem dX11_live_45 : decode cX11_live 45 = .ok (.if_icmp .ne 7, 3) := by decide +kernel
theorem dX11_live_48 : decode cX11_live 48 = .ok (.iconst 1, 1) := by decide +kernel
theorem dX11_live_49 : decode cX11_live 49 = .ok (.goto 4, 3) := by decide +kernel
theorem dX11_live_52 : decode cX11_live 52 = .ok (.iconst 0, 1) := by decide +kernel
theorem dX11_live_53 : decode cX11_live 53 = .ok (.iadd, 1) := by decide +kernel
theorem dX11_live_54 : decode cX11_live 54 = .ok (.istore_n 2, 1) := by decide +kernel
theorem dX11_live_55 : decode cX11_live 55 = .ok (.iinc 3 1, 3) := by decide +kernel
theorem dX11_live_58 : decode cX11_live 58 = .ok (.goto (-51), 3) := by decide +kernel
theorem dX11_live_61 : decode cX11_live 61 = .ok (.iload_n 2, 1) := by decide +kernel
theorem dX11_live_62 : decode cX11_live 62 = .ok (.ireturn, 1) := by decide +kernel
theorem dX11_fullest_0 : decode cX11_fullest 0 = .ok (.iconst (-1), 1) := by decide +kernel
theorem dX11_fullest_1 : decode cX11_fullest 1 = .ok (.istore_n 1, 1) := by decide +kernel
theorem dX11_fullest_2 : decode cX11_fullest 2 = .ok (.iconst 0, 1) := by decide +kernel
theorem dX11_fullest_3 : decode cX11_fullest 3 = .ok (.istore_n 2, 1) := by decide +kernel
theorem dX11_fullest_4 : decode cX11_fullest 4 = .ok (.iconst 0, 1) := by decide +kernel
theorem dX11_fullest_5 : decode cX11_fullest 5 = .ok (.istore_n 3, 1) := by decide +kernel
theorem dX11_fullest_6 : decode cX11_fullest 6 = .ok (.iload_n 3, 1) := by decide +kernel
theorem dX11_fullest_7 : decode cX11_fullest 7 = .ok (.aload_n 0, 1) := by decide +kernel
theorem dX11_fullest_8 : decode cX11_fullest 8 = .ok (.getfield 153, 3) := by decide +kernel
theorem dX11_fullest_11 : decode cX11_fullest 11 = .ok (.if_icmp .ge 41, 3) := by decide +kernel
theorem dX11_fullest_14 : decode cX11_fullest 14 = .ok (.aload_n 0, 1) := by decide +kernel
theorem dX11_fullest_15 : decode cX11_fullest 15 = .ok (.iload_n 3, 1) := by decide +kernel
theorem dX11_fullest_16 : decode cX11_fullest 16 = .ok (.invokevirtual 209, 3) := by decide +kernel
theorem dX11_fullest_19 : decode cX11_fullest 19 = .ok (.istore 4, 2) := by decide +kernel
theorem dX11_fullest_21 : decode cX11_fullest 21 = .ok (.iload 4, 2) := by decide +kernel
theorem dX11_fullest_23 : decode cX11_fullest 23 = .ok (.iload_n 2, 1) := by decide +kernel
theorem dX11_fullest_24 : decode cX11_fullest 24 = .ok (.if_icmp .le 7, 3) := by decide +kernel
theorem dX11_fullest_27 : decode cX11_fullest 27 = .ok (.iload_n 3, 1) := by decide +kernel
theorem dX11_fullest_28 : decode cX11_fullest 28 = .ok (.goto 4, 3) := by decide +kernel
theorem dX11_fullest_31 : decode cX11_fullest 31 = .ok (.iload_n 1, 1) := by decide +kernel
theorem dX11_fullest_32 : decode cX11_fullest 32 = .ok (.istore_n 1, 1) := by decide +kernel
theorem dX11_fullest_33 : decode cX11_fullest 33 = .ok (.iload 4, 2) := by decide +kernel
theorem dX11_fullest_35 : decode cX11_fullest 35 = .ok (.iload_n 2, 1) := by decide +kernel
theorem dX11_fullest_36 : decode cX11_fullest 36 = .ok (.if_icmp .le 8, 3) := by decide +kernel
theorem dX11_fullest_39 : decode cX11_fullest 39 = .ok (.iload 4, 2) := by decide +kernel
theorem dX11_fullest_41 : decode cX11_fullest 41 = .ok (.goto 4, 3) := by decide +kernel
theorem dX11_fullest_44 : decode cX11_fullest 44 = .ok (.iload_n 2, 1) := by decide +kernel
theorem dX11_fullest_45 : decode cX11_fullest 45 = .ok (.istore_n 2, 1) := by decide +kernel
theorem dX11_fullest_46 : decode cX11_fullest 46 = .ok (.iinc 3 1, 3) := by decide +kernel
theorem dX11_fullest_49 : decode cX11_fullest 49 = .ok (.goto (-43), 3) := by decide +kernel
theorem dX11_fullest_52 : decode cX11_fullest 52 = .ok (.iload_n 1, 1) := by decide +kernel
theorem dX11_fullest_53 : decode cX11_fullest 53 = .ok (.ireturn, 1) := by decide +kernel
theorem dX11_nextKind_0 : decode cX11_nextKind 0 = .ok (.aload_n 0, 1) := by decide +kernel
theorem dX11_nextKind_1 : decode cX11_nextKind 1 = .ok (.getfield 34, 3) := by decide +kernel
theorem dX11_nextKind_4 : decode cX11_nextKind 4 = .ok (.iconst (-1), 1) := by decide +kernel
theorem dX11_nextKind_5 : decode cX11_nextKind 5 = .ok (.if_icmp .eq 8, 3) := by decide +kernel
theorem dX11_nextKind_8 : decode cX11_nextKind 8 = .ok (.aload_n 0, 1) := by decide +kernel
theorem dX11_nextKind_9 : decode cX11_nextKind 9 = .ok (.getfield 213, 3) := by decide +kernel
theorem dX11_nextKind_12 : decode cX11_nextKind 12 = .ok (.ireturn, 1) := by decide +kernel
theorem dX11_nextKind_13 : decode cX11_nextKind 13 = .ok (.aload_n 0, 1) := by decide +kernel
theorem dX11_nextKind_14 : decode cX11_nextKind 14 = .ok (.invokevirtual 216, 3) := by decide +kernel
theorem dX11_nextKind_17 : decode cX11_nextKind 17 = .ok (.aload_n 0, 1) := by decide +kernel
theorem dX11_nextKind_18 : decode cX11_nextKind 18 = .ok (.getfield 202, 3) := by decide +kernel
theorem dX11_nextKind_21 : decode cX11_nextKind 21 = .ok (.isub, 1) := by decide +kernel
theorem dX11_nextKind_22 : decode cX11_nextKind 22 = .ok (.aload_n 0, 1) := by decide +kernel
theorem dX11_nextKind_23 : decode cX11_nextKind 23 = .ok (.getfield 162, 3) := by decide +kernel
theorem dX11_nextKind_26 : decode cX11_nextKind 26 = .ok (.iconst 4, 1) := by decide +kernel
theorem dX11_nextKind_27 : decode cX11_nextKind 27 = .ok (.idiv, 1) := by decide +kernel
theorem dX11_nextKind_28 : decode cX11_nextKind 28 = .ok (.if_icmp .lt 5, 3) := by decide +kernel
theorem dX11_nextKind_31 : decode cX11_nextKind 31 = .ok (.iconst 1, 1) := by decide +kernel
theorem dX11_nextKind_32 : decode cX11_nextKind 32 = .ok (.ireturn, 1) := by decide +kernel
theorem dX11_nextKind_33 : decode cX11_nextKind 33 = .ok (.aload_n 0, 1) := by decide +kernel
theorem dX11_nextKind_34 : decode cX11_nextKind 34 = .ok (.invokevirtual 220, 3) := by decide +kernel
theorem dX11_nextKind_37 : decode cX11_nextKind 37 = .ok (.iconst (-1), 1) := by decide +kernel
theorem dX11_nextKind_38 : decode cX11_nextKind 38 = .ok (.if_icmp .ne 7, 3) := by decide +kernel
theorem dX11_nextKind_41 : decode cX11_nextKind 41 = .ok (.iconst 0, 1) := by decide +kernel
theorem dX11_nextKind_42 : decode cX11_nextKind 42 = .ok (.goto 4, 3) := by decide +kernel
theorem dX11_nextKind_45 : decode cX11_nextKind 45 = .ok (.iconst 2, 1) := by decide +kernel
theorem dX11_nextKind_46 : decode cX11_nextKind 46 = .ok (.ireturn, 1) := by decide +kernel
theorem dX11_record_0 : decode cX11_record 0 = .ok (.aload_n 0, 1) := by decide +kernel
theorem dX11_record_1 : decode cX11_record 1 = .ok (.invokevirtual 186, 3) := by decide +kernel
theorem dX11_record_4 : decode cX11_record 4 = .ok (.ifCond .ne 5, 3) := by decide +kernel
theorem dX11_record_7 : decode cX11_record 7 = .ok (.iconst 0, 1) := by decide +kernel
theorem dX11_record_8 : decode cX11_record 8 = .ok (.ireturn, 1) := by decide +kernel
theorem dX11_record_9 : decode cX11_record 9 = .ok (.aload_n 0, 1) := by decide +kernel
theorem dX11_record_10 : decode cX11_record 10 = .ok (.dup, 1) := by decide +kernel
theorem dX11_record_11 : decode cX11_record 11 = .ok (.getfield 190, 3) := by decide +kernel
theorem dX11_record_14 : decode cX11_record 14 = .ok (.iconst 1, 1) := by decide +kernel
theorem dX11_record_15 : decode cX11_record 15 = .ok (.iadd, 1) := by decide +kernel
theorem dX11_record_16 : decode cX11_record 16 = .ok (.putfield 190, 3) := by decide +kernel
theorem dX11_record_19 : decode cX11_record 19 = .ok (.iconst 1, 1) := by decide +kernel
theorem dX11_record_20 : decode cX11_record 20 = .ok (.ireturn, 1) := by decide +kernel
theorem dX11_nextTrack_0 : decode cX11_nextTrack 0 = .ok (.aload_n 0, 1) := by decide +kernel
theorem dX11_nextTrack_1 : decode cX11_nextTrack 1 = .ok (.dup, 1) := by decide +kernel
theorem dX11_nextTrack_2 : decode cX11_nextTrack 2 = .ok (.getfield 232, 3) := by decide +kernel
theorem dX11_nextTrack_5 : decode cX11_nextTrack 5 = .ok (.iconst 1, 1) := by decide +kernel
theorem dX11_nextTrack_6 : decode cX11_nextTrack 6 = .ok (.iadd, 1) := by decide +kernel
theorem dX11_nextTrack_7 : decode cX11_nextTrack 7 = .ok (.putfield 232, 3) := by decide +kernel
theorem dX11_nextTrack_10 : decode cX11_nextTrack 10 = .ok (.aload_n 0, 1) := by decide +kernel
theorem dX11_nextTrack_11 : decode cX11_nextTrack 11 = .ok (.getfield 232, 3) := by decide +kernel
theorem dX11_nextTrack_14 : decode cX11_nextTrack 14 = .ok (.aload_n 0, 1) := by decide +kernel
theorem dX11_nextTrack_15 : decode cX11_nextTrack 15 = .ok (.getfield 156, 3) := by decide +kernel
theorem dX11_nextTrack_18 : decode cX11_nextTrack 18 = .ok (.if_icmp .ge 4, 3) := by decide +kernel
theorem dX11_nextTrack_21 : decode cX11_nextTrack 21 = .ok (.return_, 1) := by decide +kernel
theorem dX11_nextTrack_22 : decode cX11_nextTrack 22 = .ok (.aload_n 0, 1) := by decide +kernel
theorem dX11_nextTrack_23 : decode cX11_nextTrack 23 = .ok (.iload_n 1, 1) := by decide +kernel
theorem dX11_nextTrack_24 : decode cX11_nextTrack 24 = .ok (.putfield 213, 3) := by decide +kernel
theorem dX11_nextTrack_27 : decode cX11_nextTrack 27 = .ok (.aload_n 0, 1) := by decide +kernel
theorem dX11_nextTrack_28 : decode cX11_nextTrack 28 = .ok (.iconst 0, 1) := by decide +kernel
theorem dX11_nextTrack_29 : decode cX11_nextTrack 29 = .ok (.putfield 232, 3) := by decide +kernel
theorem dX11_nextTrack_32 : decode cX11_nextTrack 32 = .ok (.return_, 1) := by decide +kernel
theorem dX11_writeScratch_0 : decode cX11_writeScratch 0 = .ok (.aload_n 0, 1) := by decide +kernel
theorem dX11_writeScratch_1 : decode cX11_writeScratch 1 = .ok (.invokevirtual 186, 3) := by decide +kernel
theorem dX11_writeScratch_4 : decode cX11_writeScratch 4 = .ok (.istore_n 3, 1) := by decide +kernel
theorem dX11_writeScratch_5 : decode cX11_writeScratch 5 = .ok (.aload_n 0, 1) := by decide +kernel
theorem dX11_writeScratch_6 : decode cX11_writeScratch 6 = .ok (.getfield 21, 3) := by decide +kernel
theorem dX11_writeScratch_9 : decode cX11_writeScratch 9 = .ok (.bipush 8, 2) := by decide +kernel
theorem dX11_writeScratch_11 : decode cX11_writeScratch 11 = .ok (.iload_n 1, 1) := by decide +kernel
theorem dX11_writeScratch_12 : decode cX11_writeScratch 12 = .ok (.imul, 1) := by decide +kernel
theorem dX11_writeScratch_13 : decode cX11_writeScratch 13 = .ok (.iload_n 2, 1) := by decide +kernel
theorem dX11_writeScratch_14 : decode cX11_writeScratch 14 = .ok (.iadd, 1) := by decide +kernel
theorem dX11_writeScratch_15 : decode cX11_writeScratch 15 = .ok (.iload_n 3, 1) := by decide +kernel
theorem dX11_writeScratch_16 : decode cX11_writeScratch 16 = .ok (.ifCond .ne 7, 3) := by decide +kernel
theorem dX11_writeScratch_19 : decode cX11_writeScratch 19 = .ok (.iconst 1, 1) := by decide +kernel
theorem dX11_writeScratch_20 : decode cX11_writeScratch 20 = .ok (.goto 4, 3) := by decide +kernel
theorem dX11_writeScratch_23 : decode cX11_writeScratch 23 = .ok (.iconst 0, 1) := by decide +kernel
theorem dX11_writeScratch_24 : decode cX11_writeScratch 24 = .ok (.bastore, 1) := by decide +kernel
theorem dX11_writeScratch_25 : decode cX11_writeScratch 25 = .ok (.bipush 8, 2) := by decide +kernel
theorem dX11_writeScratch_27 : decode cX11_writeScratch 27 = .ok (.iload_n 1, 1) := by decide +kernel
theorem dX11_writeScratch_28 : decode cX11_writeScratch 28 = .ok (.iconst 1, 1) := by decide +kernel
theorem dX11_writeScratch_29 : decode cX11_writeScratch 29 = .ok (.iadd, 1) := by decide +kernel
theorem dX11_writeScratch_30 : decode cX11_writeScratch 30 = .ok (.imul, 1) := by decide +kernel
theorem dX11_writeScratch_31 : decode cX11_writeScratch 31 = .ok (.istore 4, 2) := by decide +kernel
theorem dX11_writeScratch_33 : decode cX11_writeScratch 33 = .ok (.iload 4, 2) := by decide +kernel
theorem dX11_writeScratch_35 : decode cX11_writeScratch 35 = .ok (.bipush 8, 2) := by decide +kernel
theorem dX11_writeScratch_37 : decode cX11_writeScratch 37 = .ok (.iload_n 1, 1) := by decide +kernel
theorem dX11_writeScratch_38 : decode cX11_writeScratch 38 = .ok (.iconst 1, 1) := by decide +kernel
theorem dX11_writeScratch_39 : decode cX11_writeScratch 39 = .ok (.iadd, 1) := by decide +kernel
theorem dX11_writeScratch_40 : decode cX11_writeScratch 40 = .ok (.aload_n 0, 1) := by decide +kernel
theorem dX11_writeScratch_41 : decode cX11_writeScratch 41 = .ok (.getfield 159, 3) := by decide +kernel
theorem dX11_writeScratch_44 : decode cX11_writeScratch 44 = .ok (.iadd, 1) := by decide +kernel
theorem dX11_writeScratch_45 : decode cX11_writeScratch 45 = .ok (.imul, 1) := by decide +kernel
theorem dX11_writeScratch_46 : decode cX11_writeScratch 46 = .ok (.if_icmp .ge 26, 3) := by decide +kernel
theorem dX11_writeScratch_49 : decode cX11_writeScratch 49 = .ok (.iload 4, 2) := by decide +kernel
theorem dX11_writeScratch_51 : decode cX11_writeScratch 51 = .ok (.aload_n 0, 1) := by decide +kernel
theorem dX11_writeScratch_52 : decode cX11_writeScratch 52 = .ok (.getfield 165, 3) := by decide +kernel
theorem dX11_writeScratch_55 : decode cX11_writeScratch 55 = .ok (.if_icmp .ge 17, 3) := by decide +kernel
theorem dX11_writeScratch_58 : decode cX11_writeScratch 58 = .ok (.aload_n 0, 1) := by decide +kernel
theorem dX11_writeScratch_59 : decode cX11_writeScratch 59 = .ok (.getfield 21, 3) := by decide +kernel
theorem dX11_writeScratch_62 : decode cX11_writeScratch 62 = .ok (.iload 4, 2) := by decide +kernel
theorem dX11_writeScratch_64 : decode cX11_writeScratch 64 = .ok (.iconst 1, 1) := by decide +kernel
theorem dX11_writeScratch_65 : decode cX11_writeScratch 65 = .ok (.bastore, 1) := by decide +kernel
theorem dX11_writeScratch_66 : decode cX11_writeScratch 66 = .ok (.iinc 4 1, 3) := by decide +kernel
theorem dX11_writeScratch_69 : decode cX11_writeScratch 69 = .ok (.goto (-36), 3) := by decide +kernel
theorem dX11_writeScratch_72 : decode cX11_writeScratch 72 = .ok (.aload_n 0, 1) := by decide +kernel
theorem dX11_writeScratch_73 : decode cX11_writeScratch 73 = .ok (.dup, 1) := by decide +kernel
theorem dX11_writeScratch_74 : decode cX11_writeScratch 74 = .ok (.getfield 196, 3) := by decide +kernel
theorem dX11_writeScratch_77 : decode cX11_writeScratch 77 = .ok (.iload_n 3, 1) := by decide +kernel
theorem dX11_writeScratch_78 : decode cX11_writeScratch 78 = .ok (.ifCond .eq 7, 3) := by decide +kernel
theorem dX11_writeScratch_81 : decode cX11_writeScratch 81 = .ok (.iconst 1, 1) := by decide +kernel
theorem dX11_writeScratch_82 : decode cX11_writeScratch 82 = .ok (.goto 4, 3) := by decide +kernel
theorem dX11_writeScratch_85 : decode cX11_writeScratch 85 = .ok (.iconst 0, 1) := by decide +kernel
theorem dX11_writeScratch_86 : decode cX11_writeScratch 86 = .ok (.iadd, 1) := by decide +kernel
theorem dX11_writeScratch_87 : decode cX11_writeScratch 87 = .ok (.putfield 196, 3) := by decide +kernel
theorem dX11_writeScratch_90 : decode cX11_writeScratch 90 = .ok (.iload_n 3, 1) := by decide +kernel
theorem dX11_writeScratch_91 : decode cX11_writeScratch 91 = .ok (.ireturn, 1) := by decide +kernel
theorem dX11_writeBand_0 : decode cX11_writeBand 0 = .ok (.aload_n 0, 1) := by decide +kernel
theorem dX11_writeBand_1 : decode cX11_writeBand 1 = .ok (.invokevirtual 186, 3) := by decide +kernel
theorem dX11_writeBand_4 : decode cX11_writeBand 4 = .ok (.istore 4, 2) := by decide +kernel
theorem dX11_writeBand_6 : decode cX11_writeBand 6 = .ok (.iload_n 1, 1) := by decide +kernel
theorem dX11_writeBand_7 : decode cX11_writeBand 7 = .ok (.aload_n 0, 1) := by decide +kernel
theorem dX11_writeBand_8 : decode cX11_writeBand 8 = .ok (.getfield 165, 3) := by decide +kernel
theorem dX11_writeBand_11 : decode cX11_writeBand 11 = .ok (.imul, 1) := by decide +kernel
theorem dX11_writeBand_12 : decode cX11_writeBand 12 = .ok (.bipush 8, 2) := by decide +kernel
theorem dX11_writeBand_14 : decode cX11_writeBand 14 = .ok (.iload_n 2, 1) := by decide +kernel
theorem dX11_writeBand_15 : decode cX11_writeBand 15 = .ok (.imul, 1) := by decide +kernel
theorem dX11_writeBand_16 : decode cX11_writeBand 16 = .ok (.iadd, 1) := by decide +kernel
theorem dX11_writeBand_17 : decode cX11_writeBand 17 = .ok (.iload_n 3, 1) := by decide +kernel
theorem dX11_writeBand_18 : decode cX11_writeBand 18 = .ok (.iadd, 1) := by decide +kernel
theorem dX11_writeBand_19 : decode cX11_writeBand 19 = .ok (.istore 5, 2) := by decide +kernel
theorem dX11_writeBand_21 : decode cX11_writeBand 21 = .ok (.aload_n 0, 1) := by decide +kernel
theorem dX11_writeBand_22 : decode cX11_writeBand 22 = .ok (.getfield 17, 3) := by decide +kernel
theorem dX11_writeBand_25 : decode cX11_writeBand 25 = .ok (.iload 5, 2) := by decide +kernel
theorem dX11_writeBand_27 : decode cX11_writeBand 27 = .ok (.iload 4, 2) := by decide +kernel
theorem dX11_writeBand_29 : decode cX11_writeBand 29 = .ok (.ifCond .ne 7, 3) := by decide +kernel
theorem dX11_writeBand_32 : decode cX11_writeBand 32 = .ok (.iconst 1, 1) := by decide +kernel
theorem dX11_writeBand_33 : decode cX11_writeBand 33 = .ok (.goto 4, 3) := by decide +kernel
theorem dX11_writeBand_36 : decode cX11_writeBand 36 = .ok (.iconst 0, 1) := by decide +kernel
theorem dX11_writeBand_37 : decode cX11_writeBand 37 = .ok (.bastore, 1) := by decide +kernel
theorem dX11_writeBand_38 : decode cX11_writeBand 38 = .ok (.iload_n 1, 1) := by decide +kernel
theorem dX11_writeBand_39 : decode cX11_writeBand 39 = .ok (.aload_n 0, 1) := by decide +kernel
theorem dX11_writeBand_40 : decode cX11_writeBand 40 = .ok (.getfield 165, 3) := by decide +kernel
theorem dX11_writeBand_43 : decode cX11_writeBand 43 = .ok (.imul, 1) := by decide +kernel
theorem dX11_writeBand_44 : decode cX11_writeBand 44 = .ok (.bipush 8, 2) := by decide +kernel
theorem dX11_writeBand_46 : decode cX11_writeBand 46 = .ok (.iload_n 2, 1) := by decide +kernel
theorem dX11_writeBand_47 : decode cX11_writeBand 47 = .ok (.iconst 1, 1) := by decide +kernel
theorem dX11_writeBand_48 : decode cX11_writeBand 48 = .ok (.iadd, 1) := by decide +kernel
theorem dX11_writeBand_49 : decode cX11_writeBand 49 = .ok (.imul, 1) := by decide +kernel
theorem dX11_writeBand_50 : decode cX11_writeBand 50 = .ok (.iadd, 1) := by decide +kernel
theorem dX11_writeBand_51 : decode cX11_writeBand 51 = .ok (.istore 6, 2) := by decide +kernel
theorem dX11_writeBand_53 : decode cX11_writeBand 53 = .ok (.iload 6, 2) := by decide +kernel
theorem dX11_writeBand_55 : decode cX11_writeBand 55 = .ok (.iload_n 1, 1) := by decide +kernel
theorem dX11_writeBand_56 : decode cX11_writeBand 56 = .ok (.aload_n 0, 1) := by decide +kernel
theorem dX11_writeBand_57 : decode cX11_writeBand 57 = .ok (.getfield 165, 3) := by decide +kernel
theorem dX11_writeBand_60 : decode cX11_writeBand 60 = .ok (.imul, 1) := by decide +kernel
theorem dX11_writeBand_61 : decode cX11_writeBand 61 = .ok (.bipush 8, 2) := by decide +kernel
theorem dX11_writeBand_63 : decode cX11_writeBand 63 = .ok (.iload_n 2, 1) := by decide +kernel
theorem dX11_writeBand_64 : decode cX11_writeBand 64 = .ok (.iconst 1, 1) := by decide +kernel
theorem dX11_writeBand_65 : decode cX11_writeBand 65 = .ok (.iadd, 1) := by decide +kernel
theorem dX11_writeBand_66 : decode cX11_writeBand 66 = .ok (.aload_n 0, 1) := by decide +kernel
theorem dX11_writeBand_67 : decode cX11_writeBand 67 = .ok (.getfield 159, 3) := by decide +kernel
theorem dX11_writeBand_70 : decode cX11_writeBand 70 = .ok (.iadd, 1) := by decide +kernel
theorem dX11_writeBand_71 : decode cX11_writeBand 71 = .ok (.imul, 1) := by decide +kernel
theorem dX11_writeBand_72 : decode cX11_writeBand 72 = .ok (.iadd, 1) := by decide +kernel
theorem dX11_writeBand_73 : decode cX11_writeBand 73 = .ok (.if_icmp .ge 30, 3) := by decide +kernel
theorem dX11_writeBand_76 : decode cX11_writeBand 76 = .ok (.iload 6, 2) := by decide +kernel
theorem dX11_writeBand_78 : decode cX11_writeBand 78 = .ok (.iload_n 1, 1) := by decide +kernel
theorem dX11_writeBand_79 : decode cX11_writeBand 79 = .ok (.iconst 1, 1) := by decide +kernel
theorem dX11_writeBand_80 : decode cX11_writeBand 80 = .ok (.iadd, 1) := by decide +kernel
theorem dX11_writeBand_81 : decode cX11_writeBand 81 = .ok (.aload_n 0, 1) := by decide +kernel
theorem dX11_writeBand_82 : decode cX11_writeBand 82 = .ok (.getfield 165, 3) := by decide +kernel
theorem dX11_writeBand_85 : decode cX11_writeBand 85 = .ok (.imul, 1) := by decide +kernel
theorem dX11_writeBand_86 : decode cX11_writeBand 86 = .ok (.if_icmp .ge 17, 3) := by decide +kernel
theorem dX11_writeBand_89 : decode cX11_writeBand 89 = .ok (.aload_n 0, 1) := by decide +kernel
theorem dX11_writeBand_90 : decode cX11_writeBand 90 = .ok (.getfield 17, 3) := by decide +kernel
theorem dX11_writeBand_93 : decode cX11_writeBand 93 = .ok (.iload 6, 2) := by decide +kernel
theorem dX11_writeBand_95 : decode cX11_writeBand 95 = .ok (.iconst 1, 1) := by decide +kernel
theorem dX11_writeBand_96 : decode cX11_writeBand 96 = .ok (.bastore, 1) := by decide +kernel
theorem dX11_writeBand_97 : decode cX11_writeBand 97 = .ok (.iinc 6 1, 3) := by decide +kernel
theorem dX11_writeBand_100 : decode cX11_writeBand 100 = .ok (.goto (-47), 3) := by decide +kernel
theorem dX11_writeBand_103 : decode cX11_writeBand 103 = .ok (.aload_n 0, 1) := by decide +kernel
theorem dX11_writeBand_104 : decode cX11_writeBand 104 = .ok (.dup, 1) := by decide +kernel
theorem dX11_writeBand_105 : decode cX11_writeBand 105 = .ok (.getfield 193, 3) := by decide +kernel
theorem dX11_writeBand_108 : decode cX11_writeBand 108 = .ok (.iload 4, 2) := by decide +kernel
theorem dX11_writeBand_110 : decode cX11_writeBand 110 = .ok (.ifCond .eq 7, 3) := by decide +kernel
theorem dX11_writeBand_113 : decode cX11_writeBand 113 = .ok (.iconst 1, 1) := by decide +kernel
theorem dX11_writeBand_114 : decode cX11_writeBand 114 = .ok (.goto 4, 3) := by decide +kernel
theorem dX11_writeBand_117 : decode cX11_writeBand 117 = .ok (.iconst 0, 1) := by decide +kernel
theorem dX11_writeBand_118 : decode cX11_writeBand 118 = .ok (.iadd, 1) := by decide +kernel
theorem dX11_writeBand_119 : decode cX11_writeBand 119 = .ok (.putfield 193, 3) := by decide +kernel
theorem dX11_writeBand_122 : decode cX11_writeBand 122 = .ok (.iload 4, 2) := by decide +kernel
theorem dX11_writeBand_124 : decode cX11_writeBand 124 = .ok (.ireturn, 1) := by decide +kernel
theorem dX11_done_0 : decode cX11_done 0 = .ok (.aload_n 0, 1) := by decide +kernel
theorem dX11_done_1 : decode cX11_done 1 = .ok (.invokevirtual 226, 3) := by decide +kernel
theorem dX11_done_4 : decode cX11_done 4 = .ok (.ifCond .ne 5, 3) := by decide +kernel
theorem dX11_done_7 : decode cX11_done 7 = .ok (.iconst 0, 1) := by decide +kernel
theorem dX11_done_8 : decode cX11_done 8 = .ok (.ireturn, 1) := by decide +kernel
theorem dX11_done_9 : decode cX11_done 9 = .ok (.aload_n 0, 1) := by decide +kernel
theorem dX11_done_10 : decode cX11_done 10 = .ok (.getfield 31, 3) := by decide +kernel
theorem dX11_done_13 : decode cX11_done 13 = .ok (.aload_n 0, 1) := by decide +kernel
theorem dX11_done_14 : decode cX11_done 14 = .ok (.getfield 34, 3) := by decide +kernel
theorem dX11_done_17 : decode cX11_done 17 = .ok (.aload_n 0, 1) := by decide +kernel
theorem dX11_done_18 : decode cX11_done 18 = .ok (.getfield 229, 3) := by decide +kernel
theorem dX11_done_21 : decode cX11_done 21 = .ok (.iastore, 1) := by decide +kernel
theorem dX11_done_22 : decode cX11_done 22 = .ok (.aload_n 0, 1) := by decide +kernel
theorem dX11_done_23 : decode cX11_done 23 = .ok (.iconst (-1), 1) := by decide +kernel
theorem dX11_done_24 : decode cX11_done 24 = .ok (.putfield 34, 3) := by decide +kernel
theorem dX11_done_27 : decode cX11_done 27 = .ok (.aload_n 0, 1) := by decide +kernel
theorem dX11_done_28 : decode cX11_done 28 = .ok (.iconst 0, 1) := by decide +kernel
theorem dX11_done_29 : decode cX11_done 29 = .ok (.putfield 235, 3) := by decide +kernel
theorem dX11_done_32 : decode cX11_done 32 = .ok (.aload_n 0, 1) := by decide +kernel
theorem dX11_done_33 : decode cX11_done 33 = .ok (.aload_n 0, 1) := by decide +kernel
theorem dX11_done_34 : decode cX11_done 34 = .ok (.invokevirtual 216, 3) := by decide +kernel
theorem dX11_done_37 : decode cX11_done 37 = .ok (.putfield 202, 3) := by decide +kernel
theorem dX11_done_40 : decode cX11_done 40 = .ok (.aload_n 0, 1) := by decide +kernel
theorem dX11_done_41 : decode cX11_done 41 = .ok (.dup, 1) := by decide +kernel
theorem dX11_done_42 : decode cX11_done 42 = .ok (.getfield 252, 3) := by decide +kernel
theorem dX11_done_45 : decode cX11_done 45 = .ok (.iconst 1, 1) := by decide +kernel
theorem dX11_done_46 : decode cX11_done 46 = .ok (.iadd, 1) := by decide +kernel
theorem dX11_done_47 : decode cX11_done 47 = .ok (.putfield 252, 3) := by decide +kernel
theorem dX11_done_50 : decode cX11_done 50 = .ok (.iconst 1, 1) := by decide +kernel
theorem dX11_done_51 : decode cX11_done 51 = .ok (.ireturn, 1) := by decide +kernel
theorem dX11_step_0 : decode cX11_step 0 = .ok (.aload_n 0, 1) := by decide +kernel
theorem dX11_step_1 : decode cX11_step 1 = .ok (.invokevirtual 223, 3) := by decide +kernel
theorem dX11_step_4 : decode cX11_step 4 = .ok (.istore_n 1, 1) := by decide +kernel
theorem dX11_step_5 : decode cX11_step 5 = .ok (.iconst 1, 1) := by decide +kernel
theorem dX11_step_6 : decode cX11_step 6 = .ok (.istore_n 2, 1) := by decide +kernel
theorem dX11_step_7 : decode cX11_step 7 = .ok (.iload_n 1, 1) := by decide +kernel
theorem dX11_step_8 : decode cX11_step 8 = .ok (.tableswitch 240 1 6 #[40, 69, 117, 157, 187, 232], 40) := by decide +kernel
theorem dX11_step_48 : decode cX11_step 48 = .ok (.aload_n 0, 1) := by decide +kernel
theorem dX11_step_49 : decode cX11_step 49 = .ok (.invokevirtual 216, 3) := by decide +kernel
theorem dX11_step_52 : decode cX11_step 52 = .ok (.istore_n 3, 1) := by decide +kernel
theorem dX11_step_53 : decode cX11_step 53 = .ok (.aload_n 0, 1) := by decide +kernel
theorem dX11_step_54 : decode cX11_step 54 = .ok (.invokevirtual 226, 3) := by decide +kernel
theorem dX11_step_57 : decode cX11_step 57 = .ok (.istore_n 2, 1) := by decide +kernel
theorem dX11_step_58 : decode cX11_step 58 = .ok (.aload_n 0, 1) := by decide +kernel
theorem dX11_step_59 : decode cX11_step 59 = .ok (.iload_n 2, 1) := by decide +kernel
theorem dX11_step_60 : decode cX11_step 60 = .ok (.ifCond .eq 7, 3) := by decide +kernel
theorem dX11_step_63 : decode cX11_step 63 = .ok (.iload_n 3, 1) := by decide +kernel
theorem dX11_step_64 : decode cX11_step 64 = .ok (.goto 7, 3) := by decide +kernel
theorem dX11_step_67 : decode cX11_step 67 = .ok (.aload_n 0, 1) := by decide +kernel
theorem dX11_step_68 : decode cX11_step 68 = .ok (.getfield 202, 3) := by decide +kernel
theorem dX11_step_71 : decode cX11_step 71 = .ok (.putfield 202, 3) := by decide +kernel
theorem dX11_step_74 : decode cX11_step 74 = .ok (.goto 174, 3) := by decide +kernel
theorem dX11_step_77 : decode cX11_step 77 = .ok (.aload_n 0, 1) := by decide +kernel
theorem dX11_step_78 : decode cX11_step 78 = .ok (.invokevirtual 220, 3) := by decide +kernel
theorem dX11_step_81 : decode cX11_step 81 = .ok (.istore_n 3, 1) := by decide +kernel
theorem dX11_step_82 : decode cX11_step 82 = .ok (.aload_n 0, 1) := by decide +kernel
theorem dX11_step_83 : decode cX11_step 83 = .ok (.invokevirtual 226, 3) := by decide +kernel
theorem dX11_step_86 : decode cX11_step 86 = .ok (.istore_n 2, 1) := by decide +kernel
theorem dX11_step_87 : decode cX11_step 87 = .ok (.iload_n 2, 1) := by decide +kernel
theorem dX11_step_88 : decode cX11_step 88 = .ok (.ifCond .ne 6, 3) := by decide +kernel
theorem dX11_step_91 : decode cX11_step 91 = .ok (.goto 157, 3) := by decide +kernel
theorem dX11_step_94 : decode cX11_step 94 = .ok (.aload_n 0, 1) := by decide +kernel
theorem dX11_step_95 : decode cX11_step 95 = .ok (.iload_n 3, 1) := by decide +kernel
theorem dX11_step_96 : decode cX11_step 96 = .ok (.putfield 34, 3) := by decide +kernel
theorem dX11_step_99 : decode cX11_step 99 = .ok (.aload_n 0, 1) := by decide +kernel
theorem dX11_step_100 : decode cX11_step 100 = .ok (.aload_n 0, 1) := by decide +kernel
theorem dX11_step_101 : decode cX11_step 101 = .ok (.getfield 199, 3) := by decide +kernel
theorem dX11_step_104 : decode cX11_step 104 = .ok (.putfield 229, 3) := by decide +kernel
theorem dX11_step_107 : decode cX11_step 107 = .ok (.aload_n 0, 1) := by decide +kernel
theorem dX11_step_108 : decode cX11_step 108 = .ok (.iconst 3, 1) := by decide +kernel
theorem dX11_step_109 : decode cX11_step 109 = .ok (.putfield 213, 3) := by decide +kernel
theorem dX11_step_112 : decode cX11_step 112 = .ok (.aload_n 0, 1) := by decide +kernel
theorem dX11_step_113 : decode cX11_step 113 = .ok (.iconst 0, 1) := by decide +kernel
theorem dX11_step_114 : decode cX11_step 114 = .ok (.putfield 232, 3) := by decide +kernel
theorem dX11_step_117 : decode cX11_step 117 = .ok (.aload_n 0, 1) := by decide +kernel
theorem dX11_step_118 : decode cX11_step 118 = .ok (.iconst 0, 1) := by decide +kernel
theorem dX11_step_119 : decode cX11_step 119 = .ok (.putfield 235, 3) := by decide +kernel
theorem dX11_step_122 : decode cX11_step 122 = .ok (.goto 126, 3) := by decide +kernel
theorem dX11_step_125 : decode cX11_step 125 = .ok (.iconst 0, 1) := by decide +kernel
theorem dX11_step_126 : decode cX11_step 126 = .ok (.istore_n 3, 1) := by decide +kernel
theorem dX11_step_127 : decode cX11_step 127 = .ok (.iload_n 3, 1) := by decide +kernel
theorem dX11_step_128 : decode cX11_step 128 = .ok (.bipush 8, 2) := by decide +kernel
theorem dX11_step_130 : decode cX11_step 130 = .ok (.if_icmp .ge 23, 3) := by decide +kernel
theorem dX11_step_133 : decode cX11_step 133 = .ok (.iload_n 2, 1) := by decide +kernel
theorem dX11_step_134 : decode cX11_step 134 = .ok (.ifCond .eq 19, 3) := by decide +kernel
theorem dX11_step_137 : decode cX11_step 137 = .ok (.aload_n 0, 1) := by decide +kernel
theorem dX11_step_138 : decode cX11_step 138 = .ok (.aload_n 0, 1) := by decide +kernel
theorem dX11_step_139 : decode cX11_step 139 = .ok (.getfield 232, 3) := by decide +kernel
theorem dX11_step_142 : decode cX11_step 142 = .ok (.iload_n 3, 1) := by decide +kernel
theorem dX11_step_143 : decode cX11_step 143 = .ok (.invokevirtual 238, 3) := by decide +kernel
theorem dX11_step_146 : decode cX11_step 146 = .ok (.istore_n 2, 1) := by decide +kernel
theorem dX11_step_147 : decode cX11_step 147 = .ok (.iinc 3 1, 3) := by decide +kernel
theorem dX11_step_150 : decode cX11_step 150 = .ok (.goto (-23), 3) := by decide +kernel
theorem dX11_step_153 : decode cX11_step 153 = .ok (.iload_n 2, 1) := by decide +kernel
theorem dX11_step_154 : decode cX11_step 154 = .ok (.ifCond .eq 94, 3) := by decide +kernel
theorem dX11_step_157 : decode cX11_step 157 = .ok (.aload_n 0, 1) := by decide +kernel
theorem dX11_step_158 : decode cX11_step 158 = .ok (.iconst 4, 1) := by decide +kernel
theorem dX11_step_159 : decode cX11_step 159 = .ok (.invokevirtual 242, 3) := by decide +kernel
theorem dX11_step_162 : decode cX11_step 162 = .ok (.goto 86, 3) := by decide +kernel
theorem dX11_step_165 : decode cX11_step 165 = .ok (.aload_n 0, 1) := by decide +kernel
theorem dX11_step_166 : decode cX11_step 166 = .ok (.invokevirtual 226, 3) := by decide +kernel
theorem dX11_step_169 : decode cX11_step 169 = .ok (.istore_n 2, 1) := by decide +kernel
theorem dX11_step_170 : decode cX11_step 170 = .ok (.iload_n 2, 1) := by decide +kernel
theorem dX11_step_171 : decode cX11_step 171 = .ok (.ifCond .ne 6, 3) := by decide +kernel
theorem dX11_step_174 : decode cX11_step 174 = .ok (.goto 74, 3) := by decide +kernel
theorem dX11_step_177 : decode cX11_step 177 = .ok (.aload_n 0, 1) := by decide +kernel
theorem dX11_step_178 : decode cX11_step 178 = .ok (.iconst 1, 1) := by decide +kernel
theorem dX11_step_179 : decode cX11_step 179 = .ok (.putfield 235, 3) := by decide +kernel
theorem dX11_step_182 : decode cX11_step 182 = .ok (.aload_n 0, 1) := by decide +kernel
theorem dX11_step_183 : decode cX11_step 183 = .ok (.iconst 5, 1) := by decide +kernel
theorem dX11_step_184 : decode cX11_step 184 = .ok (.putfield 213, 3) := by decide +kernel
theorem dX11_step_187 : decode cX11_step 187 = .ok (.aload_n 0, 1) := by decide +kernel
theorem dX11_step_188 : decode cX11_step 188 = .ok (.iconst 0, 1) := by decide +kernel
theorem dX11_step_189 : decode cX11_step 189 = .ok (.putfield 232, 3) := by decide +kernel
theorem dX11_step_192 : decode cX11_step 192 = .ok (.goto 56, 3) := by decide +kernel
theorem dX11_step_195 : decode cX11_step 195 = .ok (.iconst 0, 1) := by decide +kernel
theorem dX11_step_196 : decode cX11_step 196 = .ok (.istore_n 3, 1) := by decide +kernel
theorem dX11_step_197 : decode cX11_step 197 = .ok (.iload_n 3, 1) := by decide +kernel
theorem dX11_step_198 : decode cX11_step 198 = .ok (.bipush 8, 2) := by decide +kernel
theorem dX11_step_200 : decode cX11_step 200 = .ok (.if_icmp .ge 27, 3) := by decide +kernel
theorem dX11_step_203 : decode cX11_step 203 = .ok (.iload_n 2, 1) := by decide +kernel
theorem dX11_step_204 : decode cX11_step 204 = .ok (.ifCond .eq 23, 3) := by decide +kernel
theorem dX11_step_207 : decode cX11_step 207 = .ok (.aload_n 0, 1) := by decide +kernel
theorem dX11_step_208 : decode cX11_step 208 = .ok (.aload_n 0, 1) := by decide +kernel
theorem dX11_step_209 : decode cX11_step 209 = .ok (.getfield 34, 3) := by decide +kernel
theorem dX11_step_212 : decode cX11_step 212 = .ok (.aload_n 0, 1) := by decide +kernel
theorem dX11_step_213 : decode cX11_step 213 = .ok (.getfield 232, 3) := by decide +kernel
theorem dX11_step_216 : decode cX11_step 216 = .ok (.iload_n 3, 1) := by decide +kernel
theorem dX11_step_217 : decode cX11_step 217 = .ok (.invokevirtual 245, 3) := by decide +kernel
theorem dX11_step_220 : decode cX11_step 220 = .ok (.istore_n 2, 1) := by decide +kernel
theorem dX11_step_221 : decode cX11_step 221 = .ok (.iinc 3 1, 3) := by decide +kernel
theorem dX11_step_224 : decode cX11_step 224 = .ok (.goto (-27), 3) := by decide +kernel
theorem dX11_step_227 : decode cX11_step 227 = .ok (.iload_n 2, 1) := by decide +kernel
theorem dX11_step_228 : decode cX11_step 228 = .ok (.ifCond .eq 20, 3) := by decide +kernel
theorem dX11_step_231 : decode cX11_step 231 = .ok (.aload_n 0, 1) := by decide +kernel
theorem dX11_step_232 : decode cX11_step 232 = .ok (.bipush 6, 2) := by decide +kernel
theorem dX11_step_234 : decode cX11_step 234 = .ok (.invokevirtual 242, 3) := by decide +kernel
theorem dX11_step_237 : decode cX11_step 237 = .ok (.goto 11, 3) := by decide +kernel
theorem dX11_step_240 : decode cX11_step 240 = .ok (.aload_n 0, 1) := by decide +kernel
theorem dX11_step_241 : decode cX11_step 241 = .ok (.invokevirtual 249, 3) := by decide +kernel
theorem dX11_step_244 : decode cX11_step 244 = .ok (.istore_n 2, 1) := by decide +kernel
theorem dX11_step_245 : decode cX11_step 245 = .ok (.goto 3, 3) := by decide +kernel
theorem dX11_step_248 : decode cX11_step 248 = .ok (.iload_n 2, 1) := by decide +kernel
theorem dX11_step_249 : decode cX11_step 249 = .ok (.ifCond .eq 7, 3) := by decide +kernel
theorem dX11_step_252 : decode cX11_step 252 = .ok (.iload_n 1, 1) := by decide +kernel
theorem dX11_step_253 : decode cX11_step 253 = .ok (.goto 5, 3) := by decide +kernel
theorem dX11_step_256 : decode cX11_step 256 = .ok (.bipush (-99), 2) := by decide +kernel
theorem dX11_step_258 : decode cX11_step 258 = .ok (.ireturn, 1) := by decide +kernel
theorem dX11_write_0 : decode cX11_write 0 = .ok (.iconst 4, 1) := by decide +kernel
theorem dX11_write_1 : decode cX11_write 1 = .ok (.aload_n 0, 1) := by decide +kernel
theorem dX11_write_2 : decode cX11_write 2 = .ok (.invokevirtual 255, 3) := by decide +kernel
theorem dX11_write_5 : decode cX11_write 5 = .ok (.imul, 1) := by decide +kernel
theorem dX11_write_6 : decode cX11_write 6 = .ok (.aload_n 0, 1) := by decide +kernel
theorem dX11_write_7 : decode cX11_write 7 = .ok (.getfield 162, 3) := by decide +kernel
theorem dX11_write_10 : decode cX11_write 10 = .ok (.if_icmp .ge 14, 3) := by decide +kernel
theorem dX11_write_13 : decode cX11_write 13 = .ok (.aload_n 0, 1) := by decide +kernel
theorem dX11_write_14 : decode cX11_write 14 = .ok (.invokevirtual 258, 3) := by decide +kernel
theorem dX11_write_17 : decode cX11_write 17 = .ok (.bipush (-99), 2) := by decide +kernel
theorem dX11_write_19 : decode cX11_write 19 = .ok (.if_icmp .ne 5, 3) := by decide +kernel
theorem dX11_write_22 : decode cX11_write 22 = .ok (.iconst 0, 1) := by decide +kernel
theorem dX11_write_23 : decode cX11_write 23 = .ok (.ireturn, 1) := by decide +kernel
theorem dX11_write_24 : decode cX11_write 24 = .ok (.aload_n 0, 1) := by decide +kernel
theorem dX11_write_25 : decode cX11_write 25 = .ok (.invokevirtual 255, 3) := by decide +kernel
theorem dX11_write_28 : decode cX11_write 28 = .ok (.ifCond .ne 14, 3) := by decide +kernel
theorem dX11_write_31 : decode cX11_write 31 = .ok (.aload_n 0, 1) := by decide +kernel
theorem dX11_write_32 : decode cX11_write 32 = .ok (.invokevirtual 258, 3) := by decide +kernel
theorem dX11_write_35 : decode cX11_write 35 = .ok (.bipush (-99), 2) := by decide +kernel
theorem dX11_write_37 : decode cX11_write 37 = .ok (.if_icmp .ne (-13), 3) := by decide +kernel
theorem dX11_write_40 : decode cX11_write 40 = .ok (.iconst 0, 1) := by decide +kernel
theorem dX11_write_41 : decode cX11_write 41 = .ok (.ireturn, 1) := by decide +kernel
theorem dX11_write_42 : decode cX11_write 42 = .ok (.aload_n 0, 1) := by decide +kernel
theorem dX11_write_43 : decode cX11_write 43 = .ok (.invokevirtual 186, 3) := by decide +kernel
theorem dX11_write_46 : decode cX11_write 46 = .ok (.ifCond .ne 5, 3) := by decide +kernel
theorem dX11_write_49 : decode cX11_write 49 = .ok (.iconst 0, 1) := by decide +kernel
theorem dX11_write_50 : decode cX11_write 50 = .ok (.ireturn, 1) := by decide +kernel
theorem dX11_write_51 : decode cX11_write 51 = .ok (.aload_n 0, 1) := by decide +kernel
theorem dX11_write_52 : decode cX11_write 52 = .ok (.dup, 1) := by decide +kernel
theorem dX11_write_53 : decode cX11_write 53 = .ok (.getfield 261, 3) := by decide +kernel
theorem dX11_write_56 : decode cX11_write 56 = .ok (.iconst 1, 1) := by decide +kernel
theorem dX11_write_57 : decode cX11_write 57 = .ok (.iadd, 1) := by decide +kernel
theorem dX11_write_58 : decode cX11_write 58 = .ok (.putfield 261, 3) := by decide +kernel
theorem dX11_write_61 : decode cX11_write 61 = .ok (.aload_n 0, 1) := by decide +kernel
theorem dX11_write_62 : decode cX11_write 62 = .ok (.getfield 24, 3) := by decide +kernel
theorem dX11_write_65 : decode cX11_write 65 = .ok (.aload_n 0, 1) := by decide +kernel
theorem dX11_write_66 : decode cX11_write 66 = .ok (.getfield 199, 3) := by decide +kernel
theorem dX11_write_69 : decode cX11_write 69 = .ok (.aload_n 0, 1) := by decide +kernel
theorem dX11_write_70 : decode cX11_write 70 = .ok (.getfield 162, 3) := by decide +kernel
theorem dX11_write_73 : decode cX11_write 73 = .ok (.irem, 1) := by decide +kernel
theorem dX11_write_74 : decode cX11_write 74 = .ok (.iload_n 1, 1) := by decide +kernel
theorem dX11_write_75 : decode cX11_write 75 = .ok (.iastore, 1) := by decide +kernel
theorem dX11_write_76 : decode cX11_write 76 = .ok (.aload_n 0, 1) := by decide +kernel
theorem dX11_write_77 : decode cX11_write 77 = .ok (.getfield 28, 3) := by decide +kernel
theorem dX11_write_80 : decode cX11_write 80 = .ok (.iload_n 1, 1) := by decide +kernel
theorem dX11_write_81 : decode cX11_write 81 = .ok (.aload_n 0, 1) := by decide +kernel
theorem dX11_write_82 : decode cX11_write 82 = .ok (.getfield 199, 3) := by decide +kernel
theorem dX11_write_85 : decode cX11_write 85 = .ok (.iastore, 1) := by decide +kernel
theorem dX11_write_86 : decode cX11_write 86 = .ok (.aload_n 0, 1) := by decide +kernel
theorem dX11_write_87 : decode cX11_write 87 = .ok (.dup, 1) := by decide +kernel
theorem dX11_write_88 : decode cX11_write 88 = .ok (.getfield 199, 3) := by decide +kernel
theorem dX11_write_91 : decode cX11_write 91 = .ok (.iconst 1, 1) := by decide +kernel
theorem dX11_write_92 : decode cX11_write 92 = .ok (.iadd, 1) := by decide +kernel
theorem dX11_write_93 : decode cX11_write 93 = .ok (.putfield 199, 3) := by decide +kernel
theorem dX11_write_96 : decode cX11_write 96 = .ok (.iconst 1, 1) := by decide +kernel
theorem dX11_write_97 : decode cX11_write 97 = .ok (.ireturn, 1) := by decide +kernel
theorem dX11_bringHome_0 : decode cX11_bringHome 0 = .ok (.iconst 0, 1) := by decide +kernel
theorem dX11_bringHome_1 : decode cX11_bringHome 1 = .ok (.istore_n 1, 1) := by decide +kernel
theorem dX11_bringHome_2 : decode cX11_bringHome 2 = .ok (.iload_n 1, 1) := by decide +kernel
theorem dX11_bringHome_3 : decode cX11_bringHome 3 = .ok (.aload_n 0, 1) := by decide +kernel
theorem dX11_bringHome_4 : decode cX11_bringHome 4 = .ok (.getfield 168, 3) := by decide +kernel
theorem dX11_bringHome_7 : decode cX11_bringHome 7 = .ok (.if_icmp .ge 28, 3) := by decide +kernel
theorem dX11_bringHome_10 : decode cX11_bringHome 10 = .ok (.aload_n 0, 1) := by decide +kernel
theorem dX11_bringHome_11 : decode cX11_bringHome 11 = .ok (.getfield 137, 3) := by decide +kernel
theorem dX11_bringHome_14 : decode cX11_bringHome 14 = .ok (.iload_n 1, 1) := by decide +kernel
theorem dX11_bringHome_15 : decode cX11_bringHome 15 = .ok (.baload, 1) := by decide +kernel
theorem dX11_bringHome_16 : decode cX11_bringHome 16 = .ok (.ifCond .eq 13, 3) := by decide +kernel
theorem dX11_bringHome_19 : decode cX11_bringHome 19 = .ok (.aload_n 0, 1) := by decide +kernel
theorem dX11_bringHome_20 : decode cX11_bringHome 20 = .ok (.iload_n 1, 1) := by decide +kernel
theorem dX11_bringHome_21 : decode cX11_bringHome 21 = .ok (.invokevirtual 270, 3) := by decide +kernel
theorem dX11_bringHome_24 : decode cX11_bringHome 24 = .ok (.ifCond .ne 5, 3) := by decide +kernel
theorem dX11_bringHome_27 : decode cX11_bringHome 27 = .ok (.iconst 0, 1) := by decide +kernel
theorem dX11_bringHome_28 : decode cX11_bringHome 28 = .ok (.ireturn, 1) := by decide +kernel
theorem dX11_bringHome_29 : decode cX11_bringHome 29 = .ok (.iinc 1 1, 3) := by decide +kernel
theorem dX11_bringHome_32 : decode cX11_bringHome 32 = .ok (.goto (-30), 3) := by decide +kernel
theorem dX11_bringHome_35 : decode cX11_bringHome 35 = .ok (.iconst 1, 1) := by decide +kernel
theorem dX11_bringHome_36 : decode cX11_bringHome 36 = .ok (.ireturn, 1) := by decide +kernel
theorem dX11_commit_0 : decode cX11_commit 0 = .ok (.aload_n 0, 1) := by decide +kernel
theorem dX11_commit_1 : decode cX11_commit 1 = .ok (.getfield 267, 3) := by decide +kernel
theorem dX11_commit_4 : decode cX11_commit 4 = .ok (.ifCond .ne 5, 3) := by decide +kernel
theorem dX11_commit_7 : decode cX11_commit 7 = .ok (.iconst 1, 1) := by decide +kernel
theorem dX11_commit_8 : decode cX11_commit 8 = .ok (.ireturn, 1) := by decide +kernel
theorem dX11_commit_9 : decode cX11_commit 9 = .ok (.aload_n 0, 1) := by decide +kernel
theorem dX11_commit_10 : decode cX11_commit 10 = .ok (.getfield 267, 3) := by decide +kernel
theorem dX11_commit_13 : decode cX11_commit 13 = .ok (.bipush 23, 2) := by decide +kernel
theorem dX11_commit_15 : decode cX11_commit 15 = .ok (.iadd, 1) := by decide +kernel
theorem dX11_commit_16 : decode cX11_commit 16 = .ok (.bipush 24, 2) := by decide +kernel
theorem dX11_commit_18 : decode cX11_commit 18 = .ok (.idiv, 1) := by decide +kernel
theorem dX11_commit_19 : decode cX11_commit 19 = .ok (.aload_n 0, 1) := by decide +kernel
theorem dX11_commit_20 : decode cX11_commit 20 = .ok (.getfield 267, 3) := by decide +kernel
theorem dX11_commit_23 : decode cX11_commit 23 = .ok (.iadd, 1) := by decide +kernel
theorem dX11_commit_24 : decode cX11_commit 24 = .ok (.iconst 1, 1) := by decide +kernel
theorem dX11_commit_25 : decode cX11_commit 25 = .ok (.iadd, 1) := by decide +kernel
theorem dX11_commit_26 : decode cX11_commit 26 = .ok (.istore_n 1, 1) := by decide +kernel
theorem dX11_commit_27 : decode cX11_commit 27 = .ok (.iconst 0, 1) := by decide +kernel
theorem dX11_commit_28 : decode cX11_commit 28 = .ok (.istore_n 2, 1) := by decide +kernel
theorem dX11_commit_29 : decode cX11_commit 29 = .ok (.iload_n 2, 1) := by decide +kernel
theorem dX11_commit_30 : decode cX11_commit 30 = .ok (.iload_n 1, 1) := by decide +kernel
theorem dX11_commit_31 : decode cX11_commit 31 = .ok (.if_icmp .ge 24, 3) := by decide +kernel
theorem dX11_commit_34 : decode cX11_commit 34 = .ok (.aload_n 0, 1) := by decide +kernel
theorem dX11_commit_35 : decode cX11_commit 35 = .ok (.iload_n 2, 1) := by decide +kernel
theorem dX11_commit_36 : decode cX11_commit 36 = .ok (.invokevirtual 270, 3) := by decide +kernel
theorem dX11_commit_39 : decode cX11_commit 39 = .ok (.ifCond .ne 5, 3) := by decide +kernel
theorem dX11_commit_42 : decode cX11_commit 42 = .ok (.iconst 0, 1) := by decide +kernel
theorem dX11_commit_43 : decode cX11_commit 43 = .ok (.ireturn, 1) := by decide +kernel
theorem dX11_commit_44 : decode cX11_commit 44 = .ok (.aload_n 0, 1) := by decide +kernel
theorem dX11_commit_45 : decode cX11_commit 45 = .ok (.iconst 0, 1) := by decide +kernel
theorem dX11_commit_46 : decode cX11_commit 46 = .ok (.putfield 273, 3) := by decide +kernel
theorem dX11_commit_49 : decode cX11_commit 49 = .ok (.iinc 2 1, 3) := by decide +kernel
theorem dX11_commit_52 : decode cX11_commit 52 = .ok (.goto (-23), 3) := by decide +kernel
theorem dX11_commit_55 : decode cX11_commit 55 = .ok (.aload_n 0, 1) := by decide +kernel
theorem dX11_commit_56 : decode cX11_commit 56 = .ok (.dup, 1) := by decide +kernel
theorem dX11_commit_57 : decode cX11_commit 57 = .ok (.getfield 276, 3) := by decide +kernel
theorem dX11_commit_60 : decode cX11_commit 60 = .ok (.iconst 1, 1) := by decide +kernel
theorem dX11_commit_61 : decode cX11_commit 61 = .ok (.iadd, 1) := by decide +kernel
theorem dX11_commit_62 : decode cX11_commit 62 = .ok (.putfield 276, 3) := by decide +kernel
theorem dX11_commit_65 : decode cX11_commit 65 = .ok (.aload_n 0, 1) := by decide +kernel
theorem dX11_commit_66 : decode cX11_commit 66 = .ok (.iconst 1, 1) := by decide +kernel
theorem dX11_commit_67 : decode cX11_commit 67 = .ok (.putfield 273, 3) := by decide +kernel
theorem dX11_commit_70 : decode cX11_commit 70 = .ok (.iconst 0, 1) := by decide +kernel
theorem dX11_commit_71 : decode cX11_commit 71 = .ok (.istore_n 2, 1) := by decide +kernel
theorem dX11_commit_72 : decode cX11_commit 72 = .ok (.iload_n 2, 1) := by decide +kernel
theorem dX11_commit_73 : decode cX11_commit 73 = .ok (.aload_n 0, 1) := by decide +kernel
theorem dX11_commit_74 : decode cX11_commit 74 = .ok (.getfield 168, 3) := by decide +kernel
theorem dX11_commit_77 : decode cX11_commit 77 = .ok (.if_icmp .ge 21, 3) := by decide +kernel
theorem dX11_commit_80 : decode cX11_commit 80 = .ok (.aload_n 0, 1) := by decide +kernel
theorem dX11_commit_81 : decode cX11_commit 81 = .ok (.getfield 137, 3) := by decide +kernel
theorem dX11_commit_84 : decode cX11_commit 84 = .ok (.iload_n 2, 1) := by decide +kernel
theorem dX11_commit_85 : decode cX11_commit 85 = .ok (.aload_n 0, 1) := by decide +kernel
theorem dX11_commit_86 : decode cX11_commit 86 = .ok (.getfield 134, 3) := by decide +kernel
theorem dX11_commit_89 : decode cX11_commit 89 = .ok (.iload_n 2, 1) := by decide +kernel
theorem dX11_commit_90 : decode cX11_commit 90 = .ok (.baload, 1) := by decide +kernel
theorem dX11_commit_91 : decode cX11_commit 91 = .ok (.bastore, 1) := by decide +kernel
theorem dX11_commit_92 : decode cX11_commit 92 = .ok (.iinc 2 1, 3) := by decide +kernel
theorem dX11_commit_95 : decode cX11_commit 95 = .ok (.goto (-23), 3) := by decide +kernel
theorem dX11_commit_98 : decode cX11_commit 98 = .ok (.aload_n 0, 1) := by decide +kernel
theorem dX11_commit_99 : decode cX11_commit 99 = .ok (.invokevirtual 279, 3) := by decide +kernel
theorem dX11_commit_102 : decode cX11_commit 102 = .ok (.aload_n 0, 1) := by decide +kernel
theorem dX11_commit_103 : decode cX11_commit 103 = .ok (.invokevirtual 282, 3) := by decide +kernel
theorem dX11_commit_106 : decode cX11_commit 106 = .ok (.ifCond .ne 5, 3) := by decide +kernel
theorem dX11_commit_109 : decode cX11_commit 109 = .ok (.iconst 0, 1) := by decide +kernel
theorem dX11_commit_110 : decode cX11_commit 110 = .ok (.ireturn, 1) := by decide +kernel
theorem dX11_commit_111 : decode cX11_commit 111 = .ok (.iconst 0, 1) := by decide +kernel
theorem dX11_commit_112 : decode cX11_commit 112 = .ok (.istore_n 2, 1) := by decide +kernel
theorem dX11_commit_113 : decode cX11_commit 113 = .ok (.iload_n 2, 1) := by decide +kernel
theorem dX11_commit_114 : decode cX11_commit 114 = .ok (.aload_n 0, 1) := by decide +kernel
theorem dX11_commit_115 : decode cX11_commit 115 = .ok (.getfield 168, 3) := by decide +kernel
theorem dX11_commit_118 : decode cX11_commit 118 = .ok (.if_icmp .ge 16, 3) := by decide +kernel
theorem dX11_commit_121 : decode cX11_commit 121 = .ok (.aload_n 0, 1) := by decide +kernel
theorem dX11_commit_122 : decode cX11_commit 122 = .ok (.getfield 134, 3) := by decide +kernel
theorem dX11_commit_125 : decode cX11_commit 125 = .ok (.iload_n 2, 1) := by decide +kernel
theorem dX11_commit_126 : decode cX11_commit 126 = .ok (.iconst 0, 1) := by decide +kernel
theorem dX11_commit_127 : decode cX11_commit 127 = .ok (.bastore, 1) := by decide +kernel
theorem dX11_commit_128 : decode cX11_commit 128 = .ok (.iinc 2 1, 3) := by decide +kernel
theorem dX11_commit_131 : decode cX11_commit 131 = .ok (.goto (-18), 3) := by decide +kernel
theorem dX11_commit_134 : decode cX11_commit 134 = .ok (.aload_n 0, 1) := by decide +kernel
theorem dX11_commit_135 : decode cX11_commit 135 = .ok (.iconst 0, 1) := by decide +kernel
theorem dX11_commit_136 : decode cX11_commit 136 = .ok (.putfield 267, 3) := by decide +kernel
theorem dX11_commit_139 : decode cX11_commit 139 = .ok (.iconst 1, 1) := by decide +kernel
theorem dX11_commit_140 : decode cX11_commit 140 = .ok (.ireturn, 1) := by decide +kernel
theorem dX11_sync_0 : decode cX11_sync 0 = .ok (.aload_n 0, 1) := by decide +kernel
theorem dX11_sync_1 : decode cX11_sync 1 = .ok (.getfield 7, 3) := by decide +kernel
theorem dX11_sync_4 : decode cX11_sync 4 = .ok (.ifCond .ne 6, 3) := by decide +kernel
theorem dX11_sync_7 : decode cX11_sync 7 = .ok (.bipush (-99), 2) := by decide +kernel
theorem dX11_sync_9 : decode cX11_sync 9 = .ok (.ireturn, 1) := by decide +kernel
theorem dX11_sync_10 : decode cX11_sync 10 = .ok (.aload_n 0, 1) := by decide +kernel
theorem dX11_sync_11 : decode cX11_sync 11 = .ok (.getfield 267, 3) := by decide +kernel
theorem dX11_sync_14 : decode cX11_sync 14 = .ok (.istore_n 1, 1) := by decide +kernel
theorem dX11_sync_15 : decode cX11_sync 15 = .ok (.aload_n 0, 1) := by decide +kernel
theorem dX11_sync_16 : decode cX11_sync 16 = .ok (.invokevirtual 285, 3) := by decide +kernel
theorem dX11_sync_19 : decode cX11_sync 19 = .ok (.ifCond .eq 7, 3) := by decide +kernel
theorem dX11_sync_22 : decode cX11_sync 22 = .ok (.iload_n 1, 1) := by decide +kernel
theorem dX11_sync_23 : decode cX11_sync 23 = .ok (.goto 5, 3) := by decide +kernel
theorem dX11_sync_26 : decode cX11_sync 26 = .ok (.bipush (-99), 2) := by decide +kernel
theorem dX11_sync_28 : decode cX11_sync 28 = .ok (.ireturn, 1) := by decide +kernel
theorem dX11_clean_0 : decode cX11_clean 0 = .ok (.aload_n 0, 1) := by decide +kernel
theorem dX11_clean_1 : decode cX11_clean 1 = .ok (.getfield 7, 3) := by decide +kernel
theorem dX11_clean_4 : decode cX11_clean 4 = .ok (.ifCond .eq 10, 3) := by decide +kernel
theorem dX11_clean_7 : decode cX11_clean 7 = .ok (.aload_n 0, 1) := by decide +kernel
theorem dX11_clean_8 : decode cX11_clean 8 = .ok (.invokevirtual 258, 3) := by decide +kernel
theorem dX11_clean_11 : decode cX11_clean 11 = .ok (.goto 5, 3) := by decide +kernel
theorem dX11_clean_14 : decode cX11_clean 14 = .ok (.bipush (-99), 2) := by decide +kernel
theorem dX11_clean_16 : decode cX11_clean 16 = .ok (.ireturn, 1) := by decide +kernel
theorem dX11_power_0 : decode cX11_power 0 = .ok (.aload_n 0, 1) := by decide +kernel
theorem dX11_power_1 : decode cX11_power 1 = .ok (.iload_n 1, 1) := by decide +kernel
theorem dX11_power_2 : decode cX11_power 2 = .ok (.ifCond .ge 7, 3) := by decide +kernel
theorem dX11_power_5 : decode cX11_power 5 = .ok (.iconst (-1), 1) := by decide +kernel
theorem dX11_power_6 : decode cX11_power 6 = .ok (.goto 4, 3) := by decide +kernel
theorem dX11_power_9 : decode cX11_power 9 = .ok (.iload_n 1, 1) := by decide +kernel
theorem dX11_power_10 : decode cX11_power 10 = .ok (.putfield 13, 3) := by decide +kernel
theorem dX11_power_13 : decode cX11_power 13 = .ok (.aload_n 0, 1) := by decide +kernel
theorem dX11_power_14 : decode cX11_power 14 = .ok (.getfield 7, 3) := by decide +kernel
theorem dX11_power_17 : decode cX11_power 17 = .ok (.ireturn, 1) := by decide +kernel
theorem dX11_forget_0 : decode cX11_forget 0 = .ok (.iconst 0, 1) := by decide +kernel
theorem dX11_forget_1 : decode cX11_forget 1 = .ok (.istore_n 1, 1) := by decide +kernel
theorem dX11_forget_2 : decode cX11_forget 2 = .ok (.iload_n 1, 1) := by decide +kernel
theorem dX11_forget_3 : decode cX11_forget 3 = .ok (.bipush 64, 2) := by decide +kernel
theorem dX11_forget_5 : decode cX11_forget 5 = .ok (.if_icmp .ge 93, 3) := by decide +kernel
theorem dX11_forget_8 : decode cX11_forget 8 = .ok (.aload_n 0, 1) := by decide +kernel
theorem dX11_forget_9 : decode cX11_forget 9 = .ok (.getfield 40, 3) := by decide +kernel
theorem dX11_forget_12 : decode cX11_forget 12 = .ok (.iload_n 1, 1) := by decide +kernel
theorem dX11_forget_13 : decode cX11_forget 13 = .ok (.aload_n 0, 1) := by decide +kernel
theorem dX11_forget_14 : decode cX11_forget 14 = .ok (.getfield 89, 3) := by decide +kernel
theorem dX11_forget_17 : decode cX11_forget 17 = .ok (.iload_n 1, 1) := by decide +kernel
theorem dX11_forget_18 : decode cX11_forget 18 = .ok (.iaload, 1) := by decide +kernel
theorem dX11_forget_19 : decode cX11_forget 19 = .ok (.iastore, 1) := by decide +kernel
theorem dX11_forget_20 : decode cX11_forget 20 = .ok (.aload_n 0, 1) := by decide +kernel
theorem dX11_forget_21 : decode cX11_forget 21 = .ok (.getfield 43, 3) := by decide +kernel
theorem dX11_forget_24 : decode cX11_forget 24 = .ok (.iload_n 1, 1) := by decide +kernel
theorem dX11_forget_25 : decode cX11_forget 25 = .ok (.aload_n 0, 1) := by decide +kernel
theorem dX11_forget_26 : decode cX11_forget 26 = .ok (.getfield 92, 3) := by decide +kernel
theorem dX11_forget_29 : decode cX11_forget 29 = .ok (.iload_n 1, 1) := by decide +kernel
theorem dX11_forget_30 : decode cX11_forget 30 = .ok (.iaload, 1) := by decide +kernel
theorem dX11_forget_31 : decode cX11_forget 31 = .ok (.iastore, 1) := by decide +kernel
theorem dX11_forget_32 : decode cX11_forget 32 = .ok (.aload_n 0, 1) := by decide +kernel
theorem dX11_forget_33 : decode cX11_forget 33 = .ok (.getfield 46, 3) := by decide +kernel
theorem dX11_forget_36 : decode cX11_forget 36 = .ok (.iload_n 1, 1) := by decide +kernel
theorem dX11_forget_37 : decode cX11_forget 37 = .ok (.aload_n 0, 1) := by decide +kernel
theorem dX11_forget_38 : decode cX11_forget 38 = .ok (.getfield 95, 3) := by decide +kernel
theorem dX11_forget_41 : decode cX11_forget 41 = .ok (.iload_n 1, 1) := by decide +kernel
theorem dX11_forget_42 : decode cX11_forget 42 = .ok (.iaload, 1) := by decide +kernel
theorem dX11_forget_43 : decode cX11_forget 43 = .ok (.iastore, 1) := by decide +kernel
theorem dX11_forget_44 : decode cX11_forget 44 = .ok (.aload_n 0, 1) := by decide +kernel
theorem dX11_forget_45 : decode cX11_forget 45 = .ok (.getfield 49, 3) := by decide +kernel
theorem dX11_forget_48 : decode cX11_forget 48 = .ok (.iload_n 1, 1) := by decide +kernel
theorem dX11_forget_49 : decode cX11_forget 49 = .ok (.aload_n 0, 1) := by decide +kernel
theorem dX11_forget_50 : decode cX11_forget 50 = .ok (.getfield 98, 3) := by decide +kernel
theorem dX11_forget_53 : decode cX11_forget 53 = .ok (.iload_n 1, 1) := by decide +kernel
theorem dX11_forget_54 : decode cX11_forget 54 = .ok (.iaload, 1) := by decide +kernel
theorem dX11_forget_55 : decode cX11_forget 55 = .ok (.iastore, 1) := by decide +kernel
theorem dX11_forget_56 : decode cX11_forget 56 = .ok (.aload_n 0, 1) := by decide +kernel
theorem dX11_forget_57 : decode cX11_forget 57 = .ok (.getfield 59, 3) := by decide +kernel
theorem dX11_forget_60 : decode cX11_forget 60 = .ok (.iload_n 1, 1) := by decide +kernel
theorem dX11_forget_61 : decode cX11_forget 61 = .ok (.aload_n 0, 1) := by decide +kernel
theorem dX11_forget_62 : decode cX11_forget 62 = .ok (.getfield 107, 3) := by decide +kernel
theorem dX11_forget_65 : decode cX11_forget 65 = .ok (.iload_n 1, 1) := by decide +kernel
theorem dX11_forget_66 : decode cX11_forget 66 = .ok (.iaload, 1) := by decide +kernel
theorem dX11_forget_67 : decode cX11_forget 67 = .ok (.iastore, 1) := by decide +kernel
theorem dX11_forget_68 : decode cX11_forget 68 = .ok (.aload_n 0, 1) := by decide +kernel
theorem dX11_forget_69 : decode cX11_forget 69 = .ok (.getfield 62, 3) := by decide +kernel
theorem dX11_forget_72 : decode cX11_forget 72 = .ok (.iload_n 1, 1) := by decide +kernel
theorem dX11_forget_73 : decode cX11_forget 73 = .ok (.aload_n 0, 1) := by decide +kernel
theorem dX11_forget_74 : decode cX11_forget 74 = .ok (.getfield 110, 3) := by decide +kernel
theorem dX11_forget_77 : decode cX11_forget 77 = .ok (.iload_n 1, 1) := by decide +kernel
theorem dX11_forget_78 : decode cX11_forget 78 = .ok (.iaload, 1) := by decide +kernel
theorem dX11_forget_79 : decode cX11_forget 79 = .ok (.iastore, 1) := by decide +kernel
theorem dX11_forget_80 : decode cX11_forget 80 = .ok (.aload_n 0, 1) := by decide +kernel
theorem dX11_forget_81 : decode cX11_forget 81 = .ok (.getfield 75, 3) := by decide +kernel
theorem dX11_forget_84 : decode cX11_forget 84 = .ok (.iload_n 1, 1) := by decide +kernel
theorem dX11_forget_85 : decode cX11_forget 85 = .ok (.aload_n 0, 1) := by decide +kernel
theorem dX11_forget_86 : decode cX11_forget 86 = .ok (.getfield 122, 3) := by decide +kernel
theorem dX11_forget_89 : decode cX11_forget 89 = .ok (.iload_n 1, 1) := by decide +kernel
theorem dX11_forget_90 : decode cX11_forget 90 = .ok (.iaload, 1) := by decide +kernel
theorem dX11_forget_91 : decode cX11_forget 91 = .ok (.iastore, 1) := by decide +kernel
theorem dX11_forget_92 : decode cX11_forget 92 = .ok (.iinc 1 1, 3) := by decide +kernel
theorem dX11_forget_95 : decode cX11_forget 95 = .ok (.goto (-93), 3) := by decide +kernel
theorem dX11_forget_98 : decode cX11_forget 98 = .ok (.iconst 0, 1) := by decide +kernel
theorem dX11_forget_99 : decode cX11_forget 99 = .ok (.istore_n 1, 1) := by decide +kernel
theorem dX11_forget_100 : decode cX11_forget 100 = .ok (.iload_n 1, 1) := by decide +kernel
theorem dX11_forget_101 : decode cX11_forget 101 = .ok (.sipush 2176, 3) := by decide +kernel
theorem dX11_forget_104 : decode cX11_forget 104 = .ok (.if_icmp .ge 21, 3) := by decide +kernel
theorem dX11_forget_107 : decode cX11_forget 107 = .ok (.aload_n 0, 1) := by decide +kernel
theorem dX11_forget_108 : decode cX11_forget 108 = .ok (.getfield 56, 3) := by decide +kernel
theorem dX11_forget_111 : decode cX11_forget 111 = .ok (.iload_n 1, 1) := by decide +kernel
theorem dX11_forget_112 : decode cX11_forget 112 = .ok (.aload_n 0, 1) := by decide +kernel
theorem dX11_forget_113 : decode cX11_forget 113 = .ok (.getfield 104, 3) := by decide +kernel
theorem dX11_forget_116 : decode cX11_forget 116 = .ok (.iload_n 1, 1) := by decide +kernel
theorem dX11_forget_117 : decode cX11_forget 117 = .ok (.iaload, 1) := by decide +kernel
theorem dX11_forget_118 : decode cX11_forget 118 = .ok (.iastore, 1) := by decide +kernel
theorem dX11_forget_119 : decode cX11_forget 119 = .ok (.iinc 1 1, 3) := by decide +kernel
theorem dX11_forget_122 : decode cX11_forget 122 = .ok (.goto (-22), 3) := by decide +kernel
theorem dX11_forget_125 : decode cX11_forget 125 = .ok (.iconst 0, 1) := by decide +kernel
theorem dX11_forget_126 : decode cX11_forget 126 = .ok (.istore_n 1, 1) := by decide +kernel
theorem dX11_forget_127 : decode cX11_forget 127 = .ok (.iload_n 1, 1) := by decide +kernel
theorem dX11_forget_128 : decode cX11_forget 128 = .ok (.ldc 52, 2) := by decide +kernel
theorem dX11_forget_130 : decode cX11_forget 130 = .ok (.if_icmp .ge 21, 3) := by decide +kernel
theorem dX11_forget_133 : decode cX11_forget 133 = .ok (.aload_n 0, 1) := by decide +kernel
theorem dX11_forget_134 : decode cX11_forget 134 = .ok (.getfield 53, 3) := by decide +kernel
theorem dX11_forget_137 : decode cX11_forget 137 = .ok (.iload_n 1, 1) := by decide +kernel
theorem dX11_forget_138 : decode cX11_forget 138 = .ok (.aload_n 0, 1) := by decide +kernel
theorem dX11_forget_139 : decode cX11_forget 139 = .ok (.getfield 101, 3) := by decide +kernel
theorem dX11_forget_142 : decode cX11_forget 142 = .ok (.iload_n 1, 1) := by decide +kernel
theorem dX11_forget_143 : decode cX11_forget 143 = .ok (.iaload, 1) := by decide +kernel
theorem dX11_forget_144 : decode cX11_forget 144 = .ok (.iastore, 1) := by decide +kernel
theorem dX11_forget_145 : decode cX11_forget 145 = .ok (.iinc 1 1, 3) := by decide +kernel
theorem dX11_forget_148 : decode cX11_forget 148 = .ok (.goto (-21), 3) := by decide +kernel
theorem dX11_forget_151 : decode cX11_forget 151 = .ok (.iconst 0, 1) := by decide +kernel
theorem dX11_forget_152 : decode cX11_forget 152 = .ok (.istore_n 1, 1) := by decide +kernel
theorem dX11_forget_153 : decode cX11_forget 153 = .ok (.iload_n 1, 1) := by decide +kernel
theorem dX11_forget_154 : decode cX11_forget 154 = .ok (.sipush 2560, 3) := by decide +kernel
theorem dX11_forget_157 : decode cX11_forget 157 = .ok (.if_icmp .ge 21, 3) := by decide +kernel
theorem dX11_forget_160 : decode cX11_forget 160 = .ok (.aload_n 0, 1) := by decide +kernel
theorem dX11_forget_161 : decode cX11_forget 161 = .ok (.getfield 78, 3) := by decide +kernel
theorem dX11_forget_164 : decode cX11_forget 164 = .ok (.iload_n 1, 1) := by decide +kernel
theorem dX11_forget_165 : decode cX11_forget 165 = .ok (.aload_n 0, 1) := by decide +kernel
theorem dX11_forget_166 : decode cX11_forget 166 = .ok (.getfield 125, 3) := by decide +kernel
theorem dX11_forget_169 : decode cX11_forget 169 = .ok (.iload_n 1, 1) := by decide +kernel
theorem dX11_forget_170 : decode cX11_forget 170 = .ok (.baload, 1) := by decide +kernel
theorem dX11_forget_171 : decode cX11_forget 171 = .ok (.bastore, 1) := by decide +kernel
theorem dX11_forget_172 : decode cX11_forget 172 = .ok (.iinc 1 1, 3) := by decide +kernel
theorem dX11_forget_175 : decode cX11_forget 175 = .ok (.goto (-22), 3) := by decide +kernel
theorem dX11_forget_178 : decode cX11_forget 178 = .ok (.iconst 0, 1) := by decide +kernel
theorem dX11_forget_179 : decode cX11_forget 179 = .ok (.istore_n 1, 1) := by decide +kernel
theorem dX11_forget_180 : decode cX11_forget 180 = .ok (.iload_n 1, 1) := by decide +kernel
theorem dX11_forget_181 : decode cX11_forget 181 = .ok (.sipush 768, 3) := by decide +kernel
theorem dX11_forget_184 : decode cX11_forget 184 = .ok (.if_icmp .ge 21, 3) := by decide +kernel
theorem dX11_forget_187 : decode cX11_forget 187 = .ok (.aload_n 0, 1) := by decide +kernel
theorem dX11_forget_188 : decode cX11_forget 188 = .ok (.getfield 65, 3) := by decide +kernel
theorem dX11_forget_191 : decode cX11_forget 191 = .ok (.iload_n 1, 1) := by decide +kernel
theorem dX11_forget_192 : decode cX11_forget 192 = .ok (.aload_n 0, 1) := by decide +kernel
theorem dX11_forget_193 : decode cX11_forget 193 = .ok (.getfield 113, 3) := by decide +kernel
theorem dX11_forget_196 : decode cX11_forget 196 = .ok (.iload_n 1, 1) := by decide +kernel
theorem dX11_forget_197 : decode cX11_forget 197 = .ok (.iaload, 1) := by decide +kernel
theorem dX11_forget_198 : decode cX11_forget 198 = .ok (.iastore, 1) := by decide +kernel
theorem dX11_forget_199 : decode cX11_forget 199 = .ok (.iinc 1 1, 3) := by decide +kernel
theorem dX11_forget_202 : decode cX11_forget 202 = .ok (.goto (-22), 3) := by decide +kernel
theorem dX11_forget_205 : decode cX11_forget 205 = .ok (.iconst 0, 1) := by decide +kernel
theorem dX11_forget_206 : decode cX11_forget 206 = .ok (.istore_n 1, 1) := by decide +kernel
theorem dX11_forget_207 : decode cX11_forget 207 = .ok (.iload_n 1, 1) := by decide +kernel
theorem dX11_forget_208 : decode cX11_forget 208 = .ok (.sipush 3072, 3) := by decide +kernel
theorem dX11_forget_211 : decode cX11_forget 211 = .ok (.if_icmp .ge 33, 3) := by decide +kernel
theorem dX11_forget_214 : decode cX11_forget 214 = .ok (.aload_n 0, 1) := by decide +kernel
theorem dX11_forget_215 : decode cX11_forget 215 = .ok (.getfield 68, 3) := by decide +kernel
theorem dX11_forget_218 : decode cX11_forget 218 = .ok (.iload_n 1, 1) := by decide +kernel
theorem dX11_forget_219 : decode cX11_forget 219 = .ok (.aload_n 0, 1) := by decide +kernel
theorem dX11_forget_220 : decode cX11_forget 220 = .ok (.getfield 116, 3) := by decide +kernel
theorem dX11_forget_223 : decode cX11_forget 223 = .ok (.iload_n 1, 1) := by decide +kernel
theorem dX11_forget_224 : decode cX11_forget 224 = .ok (.iaload, 1) := by decide +kernel
theorem dX11_forget_225 : decode cX11_forget 225 = .ok (.iastore, 1) := by decide +kernel
theorem dX11_forget_226 : decode cX11_forget 226 = .ok (.aload_n 0, 1) := by decide +kernel
theorem dX11_forget_227 : decode cX11_forget 227 = .ok (.getfield 71, 3) := by decide +kernel
theorem dX11_forget_230 : decode cX11_forget 230 = .ok (.iload_n 1, 1) := by decide +kernel
theorem dX11_forget_231 : decode cX11_forget 231 = .ok (.aload_n 0, 1) := by decide +kernel
theorem dX11_forget_232 : decode cX11_forget 232 = .ok (.getfield 119, 3) := by decide +kernel
theorem dX11_forget_235 : decode cX11_forget 235 = .ok (.iload_n 1, 1) := by decide +kernel
theorem dX11_forget_236 : decode cX11_forget 236 = .ok (.laload, 1) := by decide +kernel
theorem dX11_forget_237 : decode cX11_forget 237 = .ok (.lastore, 1) := by decide +kernel
theorem dX11_forget_238 : decode cX11_forget 238 = .ok (.iinc 1 1, 3) := by decide +kernel
theorem dX11_forget_241 : decode cX11_forget 241 = .ok (.goto (-34), 3) := by decide +kernel
theorem dX11_forget_244 : decode cX11_forget 244 = .ok (.iconst 0, 1) := by decide +kernel
theorem dX11_forget_245 : decode cX11_forget 245 = .ok (.istore_n 1, 1) := by decide +kernel
theorem dX11_forget_246 : decode cX11_forget 246 = .ok (.iload_n 1, 1) := by decide +kernel
theorem dX11_forget_247 : decode cX11_forget 247 = .ok (.aload_n 0, 1) := by decide +kernel
theorem dX11_forget_248 : decode cX11_forget 248 = .ok (.getfield 168, 3) := by decide +kernel
theorem dX11_forget_251 : decode cX11_forget 251 = .ok (.if_icmp .ge 28, 3) := by decide +kernel
theorem dX11_forget_254 : decode cX11_forget 254 = .ok (.aload_n 0, 1) := by decide +kernel
theorem dX11_forget_255 : decode cX11_forget 255 = .ok (.getfield 82, 3) := by decide +kernel
theorem dX11_forget_258 : decode cX11_forget 258 = .ok (.iload_n 1, 1) := by decide +kernel
theorem dX11_forget_259 : decode cX11_forget 259 = .ok (.aload_n 0, 1) := by decide +kernel
theorem dX11_forget_260 : decode cX11_forget 260 = .ok (.getfield 128, 3) := by decide +kernel
theorem dX11_forget_263 : decode cX11_forget 263 = .ok (.iload_n 1, 1) := by decide +kernel
theorem dX11_forget_264 : decode cX11_forget 264 = .ok (.baload, 1) := by decide +kernel
theorem dX11_forget_265 : decode cX11_forget 265 = .ok (.bastore, 1) := by decide +kernel
theorem dX11_forget_266 : decode cX11_forget 266 = .ok (.aload_n 0, 1) := by decide +kernel
theorem dX11_forget_267 : decode cX11_forget 267 = .ok (.getfield 134, 3) := by decide +kernel
theorem dX11_forget_270 : decode cX11_forget 270 = .ok (.iload_n 1, 1) := by decide +kernel
theorem dX11_forget_271 : decode cX11_forget 271 = .ok (.iconst 0, 1) := by decide +kernel
theorem dX11_forget_272 : decode cX11_forget 272 = .ok (.bastore, 1) := by decide +kernel
theorem dX11_forget_273 : decode cX11_forget 273 = .ok (.iinc 1 1, 3) := by decide +kernel
theorem dX11_forget_276 : decode cX11_forget 276 = .ok (.goto (-30), 3) := by decide +kernel
theorem dX11_forget_279 : decode cX11_forget 279 = .ok (.iconst 0, 1) := by decide +kernel
theorem dX11_forget_280 : decode cX11_forget 280 = .ok (.istore_n 1, 1) := by decide +kernel
theorem dX11_forget_281 : decode cX11_forget 281 = .ok (.iload_n 1, 1) := by decide +kernel
theorem dX11_forget_282 : decode cX11_forget 282 = .ok (.bipush 64, 2) := by decide +kernel
theorem dX11_forget_284 : decode cX11_forget 284 = .ok (.aload_n 0, 1) := by decide +kernel
theorem dX11_forget_285 : decode cX11_forget 285 = .ok (.getfield 168, 3) := by decide +kernel
theorem dX11_forget_288 : decode cX11_forget 288 = .ok (.imul, 1) := by decide +kernel
theorem dX11_forget_289 : decode cX11_forget 289 = .ok (.if_icmp .ge 21, 3) := by decide +kernel
theorem dX11_forget_292 : decode cX11_forget 292 = .ok (.aload_n 0, 1) := by decide +kernel
theorem dX11_forget_293 : decode cX11_forget 293 = .ok (.getfield 86, 3) := by decide +kernel
theorem dX11_forget_296 : decode cX11_forget 296 = .ok (.iload_n 1, 1) := by decide +kernel
theorem dX11_forget_297 : decode cX11_forget 297 = .ok (.aload_n 0, 1) := by decide +kernel
theorem dX11_forget_298 : decode cX11_forget 298 = .ok (.getfield 131, 3) := by decide +kernel
theorem dX11_forget_301 : decode cX11_forget 301 = .ok (.iload_n 1, 1) := by decide +kernel
theorem dX11_forget_302 : decode cX11_forget 302 = .ok (.baload, 1) := by decide +kernel
theorem dX11_forget_303 : decode cX11_forget 303 = .ok (.bastore, 1) := by decide +kernel
theorem dX11_forget_304 : decode cX11_forget 304 = .ok (.iinc 1 1, 3) := by decide +kernel
theorem dX11_forget_307 : decode cX11_forget 307 = .ok (.goto (-26), 3) := by decide +kernel
theorem dX11_forget_310 : decode cX11_forget 310 = .ok (.aload_n 0, 1) := by decide +kernel
theorem dX11_forget_311 : decode cX11_forget 311 = .ok (.iconst 0, 1) := by decide +kernel
theorem dX11_forget_312 : decode cX11_forget 312 = .ok (.putfield 267, 3) := by decide +kernel
theorem dX11_forget_315 : decode cX11_forget 315 = .ok (.return_, 1) := by decide +kernel
theorem dX11_fill_0 : decode cX11_fill 0 = .ok (.iconst 0, 1) := by decide +kernel
theorem dX11_fill_1 : decode cX11_fill 1 = .ok (.istore_n 1, 1) := by decide +kernel
theorem dX11_fill_2 : decode cX11_fill 2 = .ok (.iload_n 1, 1) := by decide +kernel
theorem dX11_fill_3 : decode cX11_fill 3 = .ok (.aload_n 0, 1) := by decide +kernel
theorem dX11_fill_4 : decode cX11_fill 4 = .ok (.getfield 156, 3) := by decide +kernel
theorem dX11_fill_7 : decode cX11_fill 7 = .ok (.if_icmp .ge 38, 3) := by decide +kernel
theorem dX11_fill_10 : decode cX11_fill 10 = .ok (.iconst 0, 1) := by decide +kernel
theorem dX11_fill_11 : decode cX11_fill 11 = .ok (.istore_n 2, 1) := by decide +kernel
theorem dX11_fill_12 : decode cX11_fill 12 = .ok (.iload_n 2, 1) := by decide +kernel
theorem dX11_fill_13 : decode cX11_fill 13 = .ok (.bipush 8, 2) := by decide +kernel
theorem dX11_fill_15 : decode cX11_fill 15 = .ok (.if_icmp .ge 24, 3) := by decide +kernel
theorem dX11_fill_18 : decode cX11_fill 18 = .ok (.aload_n 0, 1) := by decide +kernel
theorem dX11_fill_19 : decode cX11_fill 19 = .ok (.aload_n 0, 1) := by decide +kernel
theorem dX11_fill_20 : decode cX11_fill 20 = .ok (.getfield 37, 3) := by decide +kernel
theorem dX11_fill_23 : decode cX11_fill 23 = .ok (.iload_n 1, 1) := by decide +kernel
theorem dX11_fill_24 : decode cX11_fill 24 = .ok (.iload_n 2, 1) := by decide +kernel
theorem dX11_fill_25 : decode cX11_fill 25 = .ok (.invokevirtual 245, 3) := by decide +kernel
theorem dX11_fill_28 : decode cX11_fill 28 = .ok (.ifCond .ne 5, 3) := by decide +kernel
theorem dX11_fill_31 : decode cX11_fill 31 = .ok (.iconst 0, 1) := by decide +kernel
theorem dX11_fill_32 : decode cX11_fill 32 = .ok (.ireturn, 1) := by decide +kernel
theorem dX11_fill_33 : decode cX11_fill 33 = .ok (.iinc 2 1, 3) := by decide +kernel
theorem dX11_fill_36 : decode cX11_fill 36 = .ok (.goto (-24), 3) := by decide +kernel
theorem dX11_fill_39 : decode cX11_fill 39 = .ok (.iinc 1 1, 3) := by decide +kernel
theorem dX11_fill_42 : decode cX11_fill 42 = .ok (.goto (-40), 3) := by decide +kernel
theorem dX11_fill_45 : decode cX11_fill 45 = .ok (.aload_n 0, 1) := by decide +kernel
theorem dX11_fill_46 : decode cX11_fill 46 = .ok (.invokevirtual 226, 3) := by decide +kernel
theorem dX11_fill_49 : decode cX11_fill 49 = .ok (.ifCond .ne 5, 3) := by decide +kernel
theorem dX11_fill_52 : decode cX11_fill 52 = .ok (.iconst 0, 1) := by decide +kernel
theorem dX11_fill_53 : decode cX11_fill 53 = .ok (.ireturn, 1) := by decide +kernel
theorem dX11_fill_54 : decode cX11_fill 54 = .ok (.aload_n 0, 1) := by decide +kernel
theorem dX11_fill_55 : decode cX11_fill 55 = .ok (.iconst (-1), 1) := by decide +kernel
theorem dX11_fill_56 : decode cX11_fill 56 = .ok (.putfield 37, 3) := by decide +kernel
theorem dX11_fill_59 : decode cX11_fill 59 = .ok (.aload_n 0, 1) := by decide +kernel
theorem dX11_fill_60 : decode cX11_fill 60 = .ok (.aload_n 0, 1) := by decide +kernel
theorem dX11_fill_61 : decode cX11_fill 61 = .ok (.invokevirtual 216, 3) := by decide +kernel
theorem dX11_fill_64 : decode cX11_fill 64 = .ok (.putfield 202, 3) := by decide +kernel
theorem dX11_fill_67 : decode cX11_fill 67 = .ok (.iconst 1, 1) := by decide +kernel
theorem dX11_fill_68 : decode cX11_fill 68 = .ok (.ireturn, 1) := by decide +kernel
theorem dX11_recovers_0 : decode cX11_recovers 0 = .ok (.aload_n 0, 1) := by decide +kernel
theorem dX11_recovers_1 : decode cX11_recovers 1 = .ok (.getfield 34, 3) := by decide +kernel
theorem dX11_recovers_4 : decode cX11_recovers 4 = .ok (.iconst (-1), 1) := by decide +kernel
theorem dX11_recovers_5 : decode cX11_recovers 5 = .ok (.if_icmp .eq 15, 3) := by decide +kernel
theorem dX11_recovers_8 : decode cX11_recovers 8 = .ok (.aload_n 0, 1) := by decide +kernel
theorem dX11_recovers_9 : decode cX11_recovers 9 = .ok (.getfield 235, 3) := by decide +kernel
theorem dX11_recovers_12 : decode cX11_recovers 12 = .ok (.ifCond .ne 8, 3) := by decide +kernel
theorem dX11_recovers_15 : decode cX11_recovers 15 = .ok (.aload_n 0, 1) := by decide +kernel
theorem dX11_recovers_16 : decode cX11_recovers 16 = .ok (.iconst (-1), 1) := by decide +kernel
theorem dX11_recovers_17 : decode cX11_recovers 17 = .ok (.putfield 34, 3) := by decide +kernel
theorem dX11_recovers_20 : decode cX11_recovers 20 = .ok (.aload_n 0, 1) := by decide +kernel
theorem dX11_recovers_21 : decode cX11_recovers 21 = .ok (.getfield 34, 3) := by decide +kernel
theorem dX11_recovers_24 : decode cX11_recovers 24 = .ok (.iconst (-1), 1) := by decide +kernel
theorem dX11_recovers_25 : decode cX11_recovers 25 = .ok (.if_icmp .eq 32, 3) := by decide +kernel
theorem dX11_recovers_28 : decode cX11_recovers 28 = .ok (.aload_n 0, 1) := by decide +kernel
theorem dX11_recovers_29 : decode cX11_recovers 29 = .ok (.iconst 5, 1) := by decide +kernel
theorem dX11_recovers_30 : decode cX11_recovers 30 = .ok (.putfield 213, 3) := by decide +kernel
theorem dX11_recovers_33 : decode cX11_recovers 33 = .ok (.aload_n 0, 1) := by decide +kernel
theorem dX11_recovers_34 : decode cX11_recovers 34 = .ok (.iconst 0, 1) := by decide +kernel
theorem dX11_recovers_35 : decode cX11_recovers 35 = .ok (.putfield 232, 3) := by decide +kernel
theorem dX11_recovers_38 : decode cX11_recovers 38 = .ok (.aload_n 0, 1) := by decide +kernel
theorem dX11_recovers_39 : decode cX11_recovers 39 = .ok (.getfield 34, 3) := by decide +kernel
theorem dX11_recovers_42 : decode cX11_recovers 42 = .ok (.iconst (-1), 1) := by decide +kernel
theorem dX11_recovers_43 : decode cX11_recovers 43 = .ok (.if_icmp .eq 14, 3) := by decide +kernel
theorem dX11_recovers_46 : decode cX11_recovers 46 = .ok (.aload_n 0, 1) := by decide +kernel
theorem dX11_recovers_47 : decode cX11_recovers 47 = .ok (.invokevirtual 258, 3) := by decide +kernel
theorem dX11_recovers_50 : decode cX11_recovers 50 = .ok (.bipush (-99), 2) := by decide +kernel
theorem dX11_recovers_52 : decode cX11_recovers 52 = .ok (.if_icmp .ne (-14), 3) := by decide +kernel
theorem dX11_recovers_55 : decode cX11_recovers 55 = .ok (.iconst 0, 1) := by decide +kernel
theorem dX11_recovers_56 : decode cX11_recovers 56 = .ok (.ireturn, 1) := by decide +kernel
theorem dX11_recovers_57 : decode cX11_recovers 57 = .ok (.aload_n 0, 1) := by decide +kernel
theorem dX11_recovers_58 : decode cX11_recovers 58 = .ok (.getfield 37, 3) := by decide +kernel
theorem dX11_recovers_61 : decode cX11_recovers 61 = .ok (.iconst (-1), 1) := by decide +kernel
theorem dX11_recovers_62 : decode cX11_recovers 62 = .ok (.if_icmp .eq 12, 3) := by decide +kernel
theorem dX11_recovers_65 : decode cX11_recovers 65 = .ok (.aload_n 0, 1) := by decide +kernel
theorem dX11_recovers_66 : decode cX11_recovers 66 = .ok (.invokevirtual 264, 3) := by decide +kernel
theorem dX11_recovers_69 : decode cX11_recovers 69 = .ok (.ifCond .ne 5, 3) := by decide +kernel
theorem dX11_recovers_72 : decode cX11_recovers 72 = .ok (.iconst 0, 1) := by decide +kernel
theorem dX11_recovers_73 : decode cX11_recovers 73 = .ok (.ireturn, 1) := by decide +kernel
theorem dX11_recovers_74 : decode cX11_recovers 74 = .ok (.aload_n 0, 1) := by decide +kernel
theorem dX11_recovers_75 : decode cX11_recovers 75 = .ok (.getfield 273, 3) := by decide +kernel
theorem dX11_recovers_78 : decode cX11_recovers 78 = .ok (.ifCond .eq 10, 3) := by decide +kernel
theorem dX11_recovers_81 : decode cX11_recovers 81 = .ok (.aload_n 0, 1) := by decide +kernel
theorem dX11_recovers_82 : decode cX11_recovers 82 = .ok (.invokevirtual 282, 3) := by decide +kernel
theorem dX11_recovers_85 : decode cX11_recovers 85 = .ok (.ifCond .eq 7, 3) := by decide +kernel
theorem dX11_recovers_88 : decode cX11_recovers 88 = .ok (.iconst 1, 1) := by decide +kernel
theorem dX11_recovers_89 : decode cX11_recovers 89 = .ok (.goto 4, 3) := by decide +kernel
theorem dX11_recovers_92 : decode cX11_recovers 92 = .ok (.iconst 0, 1) := by decide +kernel
theorem dX11_recovers_93 : decode cX11_recovers 93 = .ok (.ireturn, 1) := by decide +kernel
theorem dX11_restore_0 : decode cX11_restore 0 = .ok (.aload_n 0, 1) := by decide +kernel
theorem dX11_restore_1 : decode cX11_restore 1 = .ok (.getfield 261, 3) := by decide +kernel
theorem dX11_restore_4 : decode cX11_restore 4 = .ok (.aload_n 0, 1) := by decide +kernel
theorem dX11_restore_5 : decode cX11_restore 5 = .ok (.getfield 193, 3) := by decide +kernel
theorem dX11_restore_8 : decode cX11_restore 8 = .ok (.iadd, 1) := by decide +kernel
theorem dX11_restore_9 : decode cX11_restore 9 = .ok (.aload_n 0, 1) := by decide +kernel
theorem dX11_restore_10 : decode cX11_restore 10 = .ok (.getfield 196, 3) := by decide +kernel
theorem dX11_restore_13 : decode cX11_restore 13 = .ok (.iadd, 1) := by decide +kernel
theorem dX11_restore_14 : decode cX11_restore 14 = .ok (.aload_n 0, 1) := by decide +kernel
theorem dX11_restore_15 : decode cX11_restore 15 = .ok (.getfield 190, 3) := by decide +kernel
theorem dX11_restore_18 : decode cX11_restore 18 = .ok (.iadd, 1) := by decide +kernel
theorem dX11_restore_19 : decode cX11_restore 19 = .ok (.istore_n 1, 1) := by decide +kernel
theorem dX11_restore_20 : decode cX11_restore 20 = .ok (.aload_n 0, 1) := by decide +kernel
theorem dX11_restore_21 : decode cX11_restore 21 = .ok (.iconst 1, 1) := by decide +kernel
theorem dX11_restore_22 : decode cX11_restore 22 = .ok (.putfield 7, 3) := by decide +kernel
theorem dX11_restore_25 : decode cX11_restore 25 = .ok (.aload_n 0, 1) := by decide +kernel
theorem dX11_restore_26 : decode cX11_restore 26 = .ok (.invokevirtual 288, 3) := by decide +kernel
theorem dX11_restore_29 : decode cX11_restore 29 = .ok (.aload_n 0, 1) := by decide +kernel
theorem dX11_restore_30 : decode cX11_restore 30 = .ok (.invokevirtual 291, 3) := by decide +kernel
theorem dX11_restore_33 : decode cX11_restore 33 = .ok (.ifCond .ne 6, 3) := by decide +kernel
theorem dX11_restore_36 : decode cX11_restore 36 = .ok (.bipush (-99), 2) := by decide +kernel
theorem dX11_restore_38 : decode cX11_restore 38 = .ok (.ireturn, 1) := by decide +kernel
theorem dX11_restore_39 : decode cX11_restore 39 = .ok (.aload_n 0, 1) := by decide +kernel
theorem dX11_restore_40 : decode cX11_restore 40 = .ok (.getfield 261, 3) := by decide +kernel
theorem dX11_restore_43 : decode cX11_restore 43 = .ok (.aload_n 0, 1) := by decide +kernel
theorem dX11_restore_44 : decode cX11_restore 44 = .ok (.getfield 193, 3) := by decide +kernel
theorem dX11_restore_47 : decode cX11_restore 47 = .ok (.iadd, 1) := by decide +kernel
theorem dX11_restore_48 : decode cX11_restore 48 = .ok (.aload_n 0, 1) := by decide +kernel
theorem dX11_restore_49 : decode cX11_restore 49 = .ok (.getfield 196, 3) := by decide +kernel
theorem dX11_restore_52 : decode cX11_restore 52 = .ok (.iadd, 1) := by decide +kernel
theorem dX11_restore_53 : decode cX11_restore 53 = .ok (.aload_n 0, 1) := by decide +kernel
theorem dX11_restore_54 : decode cX11_restore 54 = .ok (.getfield 190, 3) := by decide +kernel
theorem dX11_restore_57 : decode cX11_restore 57 = .ok (.iadd, 1) := by decide +kernel
theorem dX11_restore_58 : decode cX11_restore 58 = .ok (.iload_n 1, 1) := by decide +kernel
theorem dX11_restore_59 : decode cX11_restore 59 = .ok (.isub, 1) := by decide +kernel
theorem dX11_restore_60 : decode cX11_restore 60 = .ok (.ireturn, 1) := by decide +kernel
theorem dX11_as_0 : decode cX11_as 0 = .ok (.aload_n 0, 1) := by decide +kernel
theorem dX11_as_1 : decode cX11_as 1 = .ok (.getfield 7, 3) := by decide +kernel
theorem dX11_as_4 : decode cX11_as 4 = .ok (.ifCond .ne 6, 3) := by decide +kernel
theorem dX11_as_7 : decode cX11_as 7 = .ok (.bipush (-99), 2) := by decide +kernel
theorem dX11_as_9 : decode cX11_as 9 = .ok (.ireturn, 1) := by decide +kernel
theorem dX11_as_10 : decode cX11_as 10 = .ok (.iload_n 1, 1) := by decide +kernel
theorem dX11_as_11 : decode cX11_as 11 = .ok (.ifCond .lt 9, 3) := by decide +kernel
theorem dX11_as_14 : decode cX11_as 14 = .ok (.iload_n 1, 1) := by decide +kernel
theorem dX11_as_15 : decode cX11_as 15 = .ok (.bipush 15, 2) := by decide +kernel
theorem dX11_as_17 : decode cX11_as 17 = .ok (.if_icmp .le 6, 3) := by decide +kernel
theorem dX11_as_20 : decode cX11_as 20 = .ok (.bipush (-15), 2) := by decide +kernel
theorem dX11_as_22 : decode cX11_as 22 = .ok (.ireturn, 1) := by decide +kernel
theorem dX11_as_23 : decode cX11_as 23 = .ok (.aload_n 0, 1) := by decide +kernel
theorem dX11_as_24 : decode cX11_as 24 = .ok (.getfield 330, 3) := by decide +kernel
theorem dX11_as_27 : decode cX11_as 27 = .ok (.istore_n 2, 1) := by decide +kernel
theorem dX11_as_28 : decode cX11_as 28 = .ok (.aload_n 0, 1) := by decide +kernel
theorem dX11_as_29 : decode cX11_as 29 = .ok (.iload_n 1, 1) := by decide +kernel
theorem dX11_as_30 : decode cX11_as 30 = .ok (.putfield 330, 3) := by decide +kernel
theorem dX11_as_33 : decode cX11_as 33 = .ok (.iload_n 2, 1) := by decide +kernel
theorem dX11_as_34 : decode cX11_as 34 = .ok (.ireturn, 1) := by decide +kernel
theorem dX11_begins_0 : decode cX11_begins 0 = .ok (.aload_n 0, 1) := by decide +kernel
theorem dX11_begins_1 : decode cX11_begins 1 = .ok (.getfield 7, 3) := by decide +kernel
theorem dX11_begins_4 : decode cX11_begins 4 = .ok (.ifCond .ne 5, 3) := by decide +kernel
theorem dX11_begins_7 : decode cX11_begins 7 = .ok (.iconst 0, 1) := by decide +kernel
theorem dX11_begins_8 : decode cX11_begins 8 = .ok (.ireturn, 1) := by decide +kernel
theorem dX11_begins_9 : decode cX11_begins 9 = .ok (.aload_n 0, 1) := by decide +kernel
theorem dX11_begins_10 : decode cX11_begins 10 = .ok (.getfield 267, 3) := by decide +kernel
theorem dX11_begins_13 : decode cX11_begins 13 = .ok (.bipush 40, 2) := by decide +kernel
theorem dX11_begins_15 : decode cX11_begins 15 = .ok (.if_icmp .le 10, 3) := by decide +kernel
theorem dX11_begins_18 : decode cX11_begins 18 = .ok (.aload_n 0, 1) := by decide +kernel
theorem dX11_begins_19 : decode cX11_begins 19 = .ok (.invokevirtual 285, 3) := by decide +kernel
theorem dX11_begins_22 : decode cX11_begins 22 = .ok (.ifCond .eq 7, 3) := by decide +kernel
theorem dX11_begins_25 : decode cX11_begins 25 = .ok (.iconst 1, 1) := by decide +kernel
theorem dX11_begins_26 : decode cX11_begins 26 = .ok (.goto 4, 3) := by decide +kernel
theorem dX11_begins_29 : decode cX11_begins 29 = .ok (.iconst 0, 1) := by decide +kernel
theorem dX11_begins_30 : decode cX11_begins 30 = .ok (.ireturn, 1) := by decide +kernel
theorem dX11_isNode_0 : decode cX11_isNode 0 = .ok (.iload_n 1, 1) := by decide +kernel
theorem dX11_isNode_1 : decode cX11_isNode 1 = .ok (.ifCond .lt 22, 3) := by decide +kernel
theorem dX11_isNode_4 : decode cX11_isNode 4 = .ok (.iload_n 1, 1) := by decide +kernel
theorem dX11_isNode_5 : decode cX11_isNode 5 = .ok (.bipush 64, 2) := by decide +kernel
theorem dX11_isNode_7 : decode cX11_isNode 7 = .ok (.if_icmp .ge 16, 3) := by decide +kernel
theorem dX11_isNode_10 : decode cX11_isNode 10 = .ok (.aload_n 0, 1) := by decide +kernel
theorem dX11_isNode_11 : decode cX11_isNode 11 = .ok (.getfield 40, 3) := by decide +kernel
theorem dX11_isNode_14 : decode cX11_isNode 14 = .ok (.iload_n 1, 1) := by decide +kernel
theorem dX11_isNode_15 : decode cX11_isNode 15 = .ok (.iaload, 1) := by decide +kernel
theorem dX11_isNode_16 : decode cX11_isNode 16 = .ok (.ifCond .eq 7, 3) := by decide +kernel
theorem dX11_isNode_19 : decode cX11_isNode 19 = .ok (.iconst 1, 1) := by decide +kernel
theorem dX11_isNode_20 : decode cX11_isNode 20 = .ok (.goto 4, 3) := by decide +kernel
theorem dX11_isNode_23 : decode cX11_isNode 23 = .ok (.iconst 0, 1) := by decide +kernel
theorem dX11_isNode_24 : decode cX11_isNode 24 = .ok (.ireturn, 1) := by decide +kernel
theorem dX11_soil_0 : decode cX11_soil 0 = .ok (.aload_n 0, 1) := by decide +kernel
theorem dX11_soil_1 : decode cX11_soil 1 = .ok (.dup, 1) := by decide +kernel
theorem dX11_soil_2 : decode cX11_soil 2 = .ok (.getfield 267, 3) := by decide +kernel
theorem dX11_soil_5 : decode cX11_soil 5 = .ok (.aload_n 0, 1) := by decide +kernel
theorem dX11_soil_6 : decode cX11_soil 6 = .ok (.getfield 134, 3) := by decide +kernel
theorem dX11_soil_9 : decode cX11_soil 9 = .ok (.iload_n 1, 1) := by decide +kernel
theorem dX11_soil_10 : decode cX11_soil 10 = .ok (.baload, 1) := by decide +kernel
theorem dX11_soil_11 : decode cX11_soil 11 = .ok (.ifCond .eq 7, 3) := by decide +kernel
theorem dX11_soil_14 : decode cX11_soil 14 = .ok (.iconst 0, 1) := by decide +kernel
theorem dX11_soil_15 : decode cX11_soil 15 = .ok (.goto 4, 3) := by decide +kernel
theorem dX11_soil_18 : decode cX11_soil 18 = .ok (.iconst 1, 1) := by decide +kernel
theorem dX11_soil_19 : decode cX11_soil 19 = .ok (.iadd, 1) := by decide +kernel
theorem dX11_soil_20 : decode cX11_soil 20 = .ok (.putfield 267, 3) := by decide +kernel
theorem dX11_soil_23 : decode cX11_soil 23 = .ok (.aload_n 0, 1) := by decide +kernel
theorem dX11_soil_24 : decode cX11_soil 24 = .ok (.getfield 134, 3) := by decide +kernel
theorem dX11_soil_27 : decode cX11_soil 27 = .ok (.iload_n 1, 1) := by decide +kernel
theorem dX11_soil_28 : decode cX11_soil 28 = .ok (.iconst 1, 1) := by decide +kernel
theorem dX11_soil_29 : decode cX11_soil 29 = .ok (.bastore, 1) := by decide +kernel
theorem dX11_soil_30 : decode cX11_soil 30 = .ok (.return_, 1) := by decide +kernel
theorem dX11_soilNode_0 : decode cX11_soilNode 0 = .ok (.aload_n 0, 1) := by decide +kernel
theorem dX11_soilNode_1 : decode cX11_soilNode 1 = .ok (.aload_n 0, 1) := by decide +kernel
theorem dX11_soilNode_2 : decode cX11_soilNode 2 = .ok (.getfield 174, 3) := by decide +kernel
theorem dX11_soilNode_5 : decode cX11_soilNode 5 = .ok (.iload_n 1, 1) := by decide +kernel
theorem dX11_soilNode_6 : decode cX11_soilNode 6 = .ok (.iadd, 1) := by decide +kernel
theorem dX11_soilNode_7 : decode cX11_soilNode 7 = .ok (.invokevirtual 294, 3) := by decide +kernel
theorem dX11_soilNode_10 : decode cX11_soilNode 10 = .ok (.return_, 1) := by decide +kernel
theorem dX11_mode_0 : decode cX11_mode 0 = .ok (.aload_n 0, 1) := by decide +kernel
theorem dX11_mode_1 : decode cX11_mode 1 = .ok (.invokevirtual 333, 3) := by decide +kernel
theorem dX11_mode_4 : decode cX11_mode 4 = .ok (.ifCond .ne 6, 3) := by decide +kernel
theorem dX11_mode_7 : decode cX11_mode 7 = .ok (.bipush (-99), 2) := by decide +kernel
theorem dX11_mode_9 : decode cX11_mode 9 = .ok (.ireturn, 1) := by decide +kernel
theorem dX11_mode_10 : decode cX11_mode 10 = .ok (.aload_n 0, 1) := by decide +kernel
theorem dX11_mode_11 : decode cX11_mode 11 = .ok (.iload_n 1, 1) := by decide +kernel
theorem dX11_mode_12 : decode cX11_mode 12 = .ok (.invokevirtual 336, 3) := by decide +kernel
theorem dX11_mode_15 : decode cX11_mode 15 = .ok (.ifCond .ne 6, 3) := by decide +kernel
theorem dX11_mode_18 : decode cX11_mode 18 = .ok (.bipush (-10), 2) := by decide +kernel
theorem dX11_mode_20 : decode cX11_mode 20 = .ok (.ireturn, 1) := by decide +kernel
theorem dX11_mode_21 : decode cX11_mode 21 = .ok (.aload_n 0, 1) := by decide +kernel
theorem dX11_mode_22 : decode cX11_mode 22 = .ok (.getfield 40, 3) := by decide +kernel
theorem dX11_mode_25 : decode cX11_mode 25 = .ok (.iload_n 1, 1) := by decide +kernel
theorem dX11_mode_26 : decode cX11_mode 26 = .ok (.iaload, 1) := by decide +kernel
theorem dX11_mode_27 : decode cX11_mode 27 = .ok (.iconst 4, 1) := by decide +kernel
theorem dX11_mode_28 : decode cX11_mode 28 = .ok (.if_icmp .eq 13, 3) := by decide +kernel
theorem dX11_mode_31 : decode cX11_mode 31 = .ok (.iload_n 2, 1) := by decide +kernel
theorem dX11_mode_32 : decode cX11_mode 32 = .ok (.ifCond .lt 9, 3) := by decide +kernel
theorem dX11_mode_35 : decode cX11_mode 35 = .ok (.iload_n 2, 1) := by decide +kernel
theorem dX11_mode_36 : decode cX11_mode 36 = .ok (.bipush 63, 2) := by decide +kernel
theorem dX11_mode_38 : decode cX11_mode 38 = .ok (.if_icmp .le 6, 3) := by decide +kernel
theorem dX11_mode_41 : decode cX11_mode 41 = .ok (.bipush (-15), 2) := by decide +kernel
theorem dX11_mode_43 : decode cX11_mode 43 = .ok (.ireturn, 1) := by decide +kernel
theorem dX11_mode_44 : decode cX11_mode 44 = .ok (.aload_n 0, 1) := by decide +kernel
theorem dX11_mode_45 : decode cX11_mode 45 = .ok (.getfield 330, 3) := by decide +kernel
theorem dX11_mode_48 : decode cX11_mode 48 = .ok (.ifCond .eq 19, 3) := by decide +kernel
theorem dX11_mode_51 : decode cX11_mode 51 = .ok (.aload_n 0, 1) := by decide +kernel
theorem dX11_mode_52 : decode cX11_mode 52 = .ok (.getfield 330, 3) := by decide +kernel
theorem dX11_mode_55 : decode cX11_mode 55 = .ok (.aload_n 0, 1) := by decide +kernel
theorem dX11_mode_56 : decode cX11_mode 56 = .ok (.getfield 59, 3) := by decide +kernel
theorem dX11_mode_59 : decode cX11_mode 59 = .ok (.iload_n 1, 1) := by decide +kernel
theorem dX11_mode_60 : decode cX11_mode 60 = .ok (.iaload, 1) := by decide +kernel
theorem dX11_mode_61 : decode cX11_mode 61 = .ok (.if_icmp .eq 6, 3) := by decide +kernel
theorem dX11_mode_64 : decode cX11_mode 64 = .ok (.bipush (-20), 2) := by decide +kernel
theorem dX11_mode_66 : decode cX11_mode 66 = .ok (.ireturn, 1) := by decide +kernel
theorem dX11_mode_67 : decode cX11_mode 67 = .ok (.aload_n 0, 1) := by decide +kernel
theorem dX11_mode_68 : decode cX11_mode 68 = .ok (.getfield 62, 3) := by decide +kernel
theorem dX11_mode_71 : decode cX11_mode 71 = .ok (.iload_n 1, 1) := by decide +kernel
theorem dX11_mode_72 : decode cX11_mode 72 = .ok (.iaload, 1) := by decide +kernel
theorem dX11_mode_73 : decode cX11_mode 73 = .ok (.istore_n 3, 1) := by decide +kernel
theorem dX11_mode_74 : decode cX11_mode 74 = .ok (.aload_n 0, 1) := by decide +kernel
theorem dX11_mode_75 : decode cX11_mode 75 = .ok (.getfield 62, 3) := by decide +kernel
theorem dX11_mode_78 : decode cX11_mode 78 = .ok (.iload_n 1, 1) := by decide +kernel
theorem dX11_mode_79 : decode cX11_mode 79 = .ok (.iload_n 2, 1) := by decide +kernel
theorem dX11_mode_80 : decode cX11_mode 80 = .ok (.iastore, 1) := by decide +kernel
theorem dX11_mode_81 : decode cX11_mode 81 = .ok (.iload_n 3, 1) := by decide +kernel
theorem dX11_mode_82 : decode cX11_mode 82 = .ok (.iload_n 2, 1) := by decide +kernel
theorem dX11_mode_83 : decode cX11_mode 83 = .ok (.if_icmp .eq 8, 3) := by decide +kernel
theorem dX11_mode_86 : decode cX11_mode 86 = .ok (.aload_n 0, 1) := by decide +kernel
theorem dX11_mode_87 : decode cX11_mode 87 = .ok (.iload_n 1, 1) := by decide +kernel
theorem dX11_mode_88 : decode cX11_mode 88 = .ok (.invokevirtual 324, 3) := by decide +kernel
theorem dX11_mode_91 : decode cX11_mode 91 = .ok (.iload_n 3, 1) := by decide +kernel
theorem dX11_mode_92 : decode cX11_mode 92 = .ok (.ireturn, 1) := by decide +kernel
theorem dX11_give_0 : decode cX11_give 0 = .ok (.aload_n 0, 1) := by decide +kernel
theorem dX11_give_1 : decode cX11_give 1 = .ok (.invokevirtual 333, 3) := by decide +kernel
theorem dX11_give_4 : decode cX11_give 4 = .ok (.ifCond .ne 6, 3) := by decide +kernel
theorem dX11_give_7 : decode cX11_give 7 = .ok (.bipush (-99), 2) := by decide +kernel
theorem dX11_give_9 : decode cX11_give 9 = .ok (.ireturn, 1) := by decide +kernel
theorem dX11_give_10 : decode cX11_give 10 = .ok (.aload_n 0, 1) := by decide +kernel
theorem dX11_give_11 : decode cX11_give 11 = .ok (.iload_n 1, 1) := by decide +kernel
theorem dX11_give_12 : decode cX11_give 12 = .ok (.invokevirtual 336, 3) := by decide +kernel
theorem dX11_give_15 : decode cX11_give 15 = .ok (.ifCond .ne 6, 3) := by decide +kernel
theorem dX11_give_18 : decode cX11_give 18 = .ok (.bipush (-10), 2) := by decide +kernel
theorem dX11_give_20 : decode cX11_give 20 = .ok (.ireturn, 1) := by decide +kernel
theorem dX11_give_21 : decode cX11_give 21 = .ok (.iload_n 2, 1) := by decide +kernel
theorem dX11_give_22 : decode cX11_give 22 = .ok (.ifCond .lt 9, 3) := by decide +kernel
theorem dX11_give_25 : decode cX11_give 25 = .ok (.iload_n 2, 1) := by decide +kernel
theorem dX11_give_26 : decode cX11_give 26 = .ok (.bipush 15, 2) := by decide +kernel
theorem dX11_give_28 : decode cX11_give 28 = .ok (.if_icmp .le 6, 3) := by decide +kernel
theorem dX11_give_31 : decode cX11_give 31 = .ok (.bipush (-15), 2) := by decide +kernel
theorem dX11_give_33 : decode cX11_give 33 = .ok (.ireturn, 1) := by decide +kernel
theorem dX11_give_34 : decode cX11_give 34 = .ok (.aload_n 0, 1) := by decide +kernel
theorem dX11_give_35 : decode cX11_give 35 = .ok (.getfield 330, 3) := by decide +kernel
theorem dX11_give_38 : decode cX11_give 38 = .ok (.ifCond .eq 6, 3) := by decide +kernel
theorem dX11_give_41 : decode cX11_give 41 = .ok (.bipush (-20), 2) := by decide +kernel
theorem dX11_give_43 : decode cX11_give 43 = .ok (.ireturn, 1) := by decide +kernel
theorem dX11_give_44 : decode cX11_give 44 = .ok (.aload_n 0, 1) := by decide +kernel
theorem dX11_give_45 : decode cX11_give 45 = .ok (.getfield 59, 3) := by decide +kernel
theorem dX11_give_48 : decode cX11_give 48 = .ok (.iload_n 1, 1) := by decide +kernel
theorem dX11_give_49 : decode cX11_give 49 = .ok (.iaload, 1) := by decide +kernel
theorem dX11_give_50 : decode cX11_give 50 = .ok (.istore_n 3, 1) := by decide +kernel
theorem dX11_give_51 : decode cX11_give 51 = .ok (.aload_n 0, 1) := by decide +kernel
theorem dX11_give_52 : decode cX11_give 52 = .ok (.getfield 59, 3) := by decide +kernel
theorem dX11_give_55 : decode cX11_give 55 = .ok (.iload_n 1, 1) := by decide +kernel
theorem dX11_give_56 : decode cX11_give 56 = .ok (.iload_n 2, 1) := by decide +kernel
theorem dX11_give_57 : decode cX11_give 57 = .ok (.iastore, 1) := by decide +kernel
theorem dX11_give_58 : decode cX11_give 58 = .ok (.iload_n 3, 1) := by decide +kernel
theorem dX11_give_59 : decode cX11_give 59 = .ok (.iload_n 2, 1) := by decide +kernel
theorem dX11_give_60 : decode cX11_give 60 = .ok (.if_icmp .eq 8, 3) := by decide +kernel
theorem dX11_give_63 : decode cX11_give 63 = .ok (.aload_n 0, 1) := by decide +kernel
theorem dX11_give_64 : decode cX11_give 64 = .ok (.iload_n 1, 1) := by decide +kernel
theorem dX11_give_65 : decode cX11_give 65 = .ok (.invokevirtual 324, 3) := by decide +kernel
theorem dX11_give_68 : decode cX11_give 68 = .ok (.iload_n 3, 1) := by decide +kernel
theorem dX11_give_69 : decode cX11_give 69 = .ok (.ireturn, 1) := by decide +kernel
theorem dX11_rights_0 : decode cX11_rights 0 = .ok (.aload_n 0, 1) := by decide +kernel
theorem dX11_rights_1 : decode cX11_rights 1 = .ok (.getfield 7, 3) := by decide +kernel
theorem dX11_rights_4 : decode cX11_rights 4 = .ok (.ifCond .ne 6, 3) := by decide +kernel
theorem dX11_rights_7 : decode cX11_rights 7 = .ok (.bipush (-99), 2) := by decide +kernel
theorem dX11_rights_9 : decode cX11_rights 9 = .ok (.ireturn, 1) := by decide +kernel
theorem dX11_rights_10 : decode cX11_rights 10 = .ok (.aload_n 0, 1) := by decide +kernel
theorem dX11_rights_11 : decode cX11_rights 11 = .ok (.iload_n 1, 1) := by decide +kernel
theorem dX11_rights_12 : decode cX11_rights 12 = .ok (.invokevirtual 336, 3) := by decide +kernel
theorem dX11_rights_15 : decode cX11_rights 15 = .ok (.ifCond .ne 6, 3) := by decide +kernel
theorem dX11_rights_18 : decode cX11_rights 18 = .ok (.bipush (-10), 2) := by decide +kernel
theorem dX11_rights_20 : decode cX11_rights 20 = .ok (.ireturn, 1) := by decide +kernel
theorem dX11_rights_21 : decode cX11_rights 21 = .ok (.iload_n 2, 1) := by decide +kernel
theorem dX11_rights_22 : decode cX11_rights 22 = .ok (.iconst 1, 1) := by decide +kernel
theorem dX11_rights_23 : decode cX11_rights 23 = .ok (.if_icmp .ne 24, 3) := by decide +kernel
theorem dX11_rights_26 : decode cX11_rights 26 = .ok (.aload_n 0, 1) := by decide +kernel
theorem dX11_rights_27 : decode cX11_rights 27 = .ok (.getfield 40, 3) := by decide +kernel
theorem dX11_rights_30 : decode cX11_rights 30 = .ok (.iload_n 1, 1) := by decide +kernel
theorem dX11_rights_31 : decode cX11_rights 31 = .ok (.iaload, 1) := by decide +kernel
theorem dX11_rights_32 : decode cX11_rights 32 = .ok (.iconst 4, 1) := by decide +kernel
theorem dX11_rights_33 : decode cX11_rights 33 = .ok (.if_icmp .ne 7, 3) := by decide +kernel
theorem dX11_rights_36 : decode cX11_rights 36 = .ok (.iconst (-1), 1) := by decide +kernel
theorem dX11_rights_37 : decode cX11_rights 37 = .ok (.goto 9, 3) := by decide +kernel
theorem dX11_rights_40 : decode cX11_rights 40 = .ok (.aload_n 0, 1) := by decide +kernel
theorem dX11_rights_41 : decode cX11_rights 41 = .ok (.getfield 62, 3) := by decide +kernel
theorem dX11_rights_44 : decode cX11_rights 44 = .ok (.iload_n 1, 1) := by decide +kernel
theorem dX11_rights_45 : decode cX11_rights 45 = .ok (.iaload, 1) := by decide +kernel
theorem dX11_rights_46 : decode cX11_rights 46 = .ok (.ireturn, 1) := by decide +kernel
theorem dX11_rights_47 : decode cX11_rights 47 = .ok (.iload_n 2, 1) := by decide +kernel
theorem dX11_rights_48 : decode cX11_rights 48 = .ok (.ifCond .ne 12, 3) := by decide +kernel
theorem dX11_rights_51 : decode cX11_rights 51 = .ok (.aload_n 0, 1) := by decide +kernel
theorem dX11_rights_52 : decode cX11_rights 52 = .ok (.getfield 59, 3) := by decide +kernel
theorem dX11_rights_55 : decode cX11_rights 55 = .ok (.iload_n 1, 1) := by decide +kernel
theorem dX11_rights_56 : decode cX11_rights 56 = .ok (.iaload, 1) := by decide +kernel
theorem dX11_rights_57 : decode cX11_rights 57 = .ok (.goto 4, 3) := by decide +kernel
theorem dX11_rights_60 : decode cX11_rights 60 = .ok (.iconst (-1), 1) := by decide +kernel
theorem dX11_rights_61 : decode cX11_rights 61 = .ok (.ireturn, 1) := by decide +kernel
theorem dX11_isDirectory_0 : decode cX11_isDirectory 0 = .ok (.iload_n 1, 1) := by decide +kernel
theorem dX11_isDirectory_1 : decode cX11_isDirectory 1 = .ok (.ifCond .lt 23, 3) := by decide +kernel
theorem dX11_isDirectory_4 : decode cX11_isDirectory 4 = .ok (.iload_n 1, 1) := by decide +kernel
theorem dX11_isDirectory_5 : decode cX11_isDirectory 5 = .ok (.bipush 64, 2) := by decide +kernel
theorem dX11_isDirectory_7 : decode cX11_isDirectory 7 = .ok (.if_icmp .ge 17, 3) := by decide +kernel
theorem dX11_isDirectory_10 : decode cX11_isDirectory 10 = .ok (.aload_n 0, 1) := by decide +kernel
theorem dX11_isDirectory_11 : decode cX11_isDirectory 11 = .ok (.getfield 40, 3) := by decide +kernel
theorem dX11_isDirectory_14 : decode cX11_isDirectory 14 = .ok (.iload_n 1, 1) := by decide +kernel
theorem dX11_isDirectory_15 : decode cX11_isDirectory 15 = .ok (.iaload, 1) := by decide +kernel
theorem dX11_isDirectory_16 : decode cX11_isDirectory 16 = .ok (.iconst 2, 1) := by decide +kernel
theorem dX11_isDirectory_17 : decode cX11_isDirectory 17 = .ok (.if_icmp .ne 7, 3) := by decide +kernel
theorem dX11_isDirectory_20 : decode cX11_isDirectory 20 = .ok (.iconst 1, 1) := by decide +kernel
theorem dX11_isDirectory_21 : decode cX11_isDirectory 21 = .ok (.goto 4, 3) := by decide +kernel
theorem dX11_isDirectory_24 : decode cX11_isDirectory 24 = .ok (.iconst 0, 1) := by decide +kernel
theorem dX11_isDirectory_25 : decode cX11_isDirectory 25 = .ok (.ireturn, 1) := by decide +kernel
theorem dX11_letter_0 : decode cX11_letter 0 = .ok (.iload_n 2, 1) := by decide +kernel
theorem dX11_letter_1 : decode cX11_letter 1 = .ok (.bipush 7, 2) := by decide +kernel
theorem dX11_letter_3 : decode cX11_letter 3 = .ok (.if_icmp .le 7, 3) := by decide +kernel
theorem dX11_letter_6 : decode cX11_letter 6 = .ok (.iconst 0, 1) := by decide +kernel
theorem dX11_letter_7 : decode cX11_letter 7 = .ok (.goto 14, 3) := by decide +kernel
theorem dX11_letter_10 : decode cX11_letter 10 = .ok (.lload_n 0, 1) := by decide +kernel
theorem dX11_letter_11 : decode cX11_letter 11 = .ok (.bipush 8, 2) := by decide +kernel
theorem dX11_letter_13 : decode cX11_letter 13 = .ok (.iload_n 2, 1) := by decide +kernel
theorem dX11_letter_14 : decode cX11_letter 14 = .ok (.imul, 1) := by decide +kernel
theorem dX11_letter_15 : decode cX11_letter 15 = .ok (.lshr, 1) := by decide +kernel
theorem dX11_letter_16 : decode cX11_letter 16 = .ok (.ldc2_w 306, 3) := by decide +kernel
theorem dX11_letter_19 : decode cX11_letter 19 = .ok (.land, 1) := by decide +kernel
theorem dX11_letter_20 : decode cX11_letter 20 = .ok (.l2i, 1) := by decide +kernel
theorem dX11_letter_21 : decode cX11_letter 21 = .ok (.ireturn, 1) := by decide +kernel
theorem dX11_isLetter_0 : decode cX11_isLetter 0 = .ok (.iload_n 0, 1) := by decide +kernel
theorem dX11_isLetter_1 : decode cX11_isLetter 1 = .ok (.bipush 97, 2) := by decide +kernel
theorem dX11_isLetter_3 : decode cX11_isLetter 3 = .ok (.if_icmp .lt 9, 3) := by decide +kernel
theorem dX11_isLetter_6 : decode cX11_isLetter 6 = .ok (.iload_n 0, 1) := by decide +kernel
theorem dX11_isLetter_7 : decode cX11_isLetter 7 = .ok (.bipush 122, 2) := by decide +kernel
theorem dX11_isLetter_9 : decode cX11_isLetter 9 = .ok (.if_icmp .le 33, 3) := by decide +kernel
theorem dX11_isLetter_12 : decode cX11_isLetter 12 = .ok (.iload_n 0, 1) := by decide +kernel
theorem dX11_isLetter_13 : decode cX11_isLetter 13 = .ok (.bipush 48, 2) := by decide +kernel
theorem dX11_isLetter_15 : decode cX11_isLetter 15 = .ok (.if_icmp .lt 9, 3) := by decide +kernel
theorem dX11_isLetter_18 : decode cX11_isLetter 18 = .ok (.iload_n 0, 1) := by decide +kernel
theorem dX11_isLetter_19 : decode cX11_isLetter 19 = .ok (.bipush 57, 2) := by decide +kernel
theorem dX11_isLetter_21 : decode cX11_isLetter 21 = .ok (.if_icmp .le 21, 3) := by decide +kernel
theorem dX11_isLetter_24 : decode cX11_isLetter 24 = .ok (.iload_n 0, 1) := by decide +kernel
theorem dX11_isLetter_25 : decode cX11_isLetter 25 = .ok (.bipush 45, 2) := by decide +kernel
theorem dX11_isLetter_27 : decode cX11_isLetter 27 = .ok (.if_icmp .eq 15, 3) := by decide +kernel
theorem dX11_isLetter_30 : decode cX11_isLetter 30 = .ok (.iload_n 0, 1) := by decide +kernel
theorem dX11_isLetter_31 : decode cX11_isLetter 31 = .ok (.bipush 95, 2) := by decide +kernel
theorem dX11_isLetter_33 : decode cX11_isLetter 33 = .ok (.if_icmp .eq 9, 3) := by decide +kernel
theorem dX11_isLetter_36 : decode cX11_isLetter 36 = .ok (.iload_n 0, 1) := by decide +kernel
theorem dX11_isLetter_37 : decode cX11_isLetter 37 = .ok (.bipush 46, 2) := by decide +kernel
theorem dX11_isLetter_39 : decode cX11_isLetter 39 = .ok (.if_icmp .ne 7, 3) := by decide +kernel
theorem dX11_isLetter_42 : decode cX11_isLetter 42 = .ok (.iconst 1, 1) := by decide +kernel
theorem dX11_isLetter_43 : decode cX11_isLetter 43 = .ok (.goto 4, 3) := by decide +kernel
theorem dX11_isLetter_46 : decode cX11_isLetter 46 = .ok (.iconst 0, 1) := by decide +kernel
theorem dX11_isLetter_47 : decode cX11_isLetter 47 = .ok (.ireturn, 1) := by decide +kernel
theorem dX11_isName_0 : decode cX11_isName 0 = .ok (.iconst 0, 1) := by decide +kernel
theorem dX11_isName_1 : decode cX11_isName 1 = .ok (.istore_n 2, 1) := by decide +kernel
theorem dX11_isName_2 : decode cX11_isName 2 = .ok (.iload_n 2, 1) := by decide +kernel
theorem dX11_isName_3 : decode cX11_isName 3 = .ok (.bipush 8, 2) := by decide +kernel
theorem dX11_isName_5 : decode cX11_isName 5 = .ok (.if_icmp .ge 20, 3) := by decide +kernel
theorem dX11_isName_8 : decode cX11_isName 8 = .ok (.lload_n 0, 1) := by decide +kernel
theorem dX11_isName_9 : decode cX11_isName 9 = .ok (.iload_n 2, 1) := by decide +kernel
theorem dX11_isName_10 : decode cX11_isName 10 = .ok (.invokestatic 308, 3) := by decide +kernel
theorem dX11_isName_13 : decode cX11_isName 13 = .ok (.invokestatic 312, 3) := by decide +kernel
theorem dX11_isName_16 : decode cX11_isName 16 = .ok (.ifCond .eq 9, 3) := by decide +kernel
theorem dX11_isName_19 : decode cX11_isName 19 = .ok (.iinc 2 1, 3) := by decide +kernel
theorem dX11_isName_22 : decode cX11_isName 22 = .ok (.goto (-20), 3) := by decide +kernel
theorem dX11_isName_25 : decode cX11_isName 25 = .ok (.iload_n 2, 1) := by decide +kernel
theorem dX11_isName_26 : decode cX11_isName 26 = .ok (.istore_n 3, 1) := by decide +kernel
theorem dX11_isName_27 : decode cX11_isName 27 = .ok (.iload_n 3, 1) := by decide +kernel
theorem dX11_isName_28 : decode cX11_isName 28 = .ok (.bipush 8, 2) := by decide +kernel
theorem dX11_isName_30 : decode cX11_isName 30 = .ok (.if_icmp .ge 19, 3) := by decide +kernel
theorem dX11_isName_33 : decode cX11_isName 33 = .ok (.lload_n 0, 1) := by decide +kernel
theorem dX11_isName_34 : decode cX11_isName 34 = .ok (.iload_n 3, 1) := by decide +kernel
theorem dX11_isName_35 : decode cX11_isName 35 = .ok (.invokestatic 308, 3) := by decide +kernel
theorem dX11_isName_38 : decode cX11_isName 38 = .ok (.ifCond .eq 5, 3) := by decide +kernel
theorem dX11_isName_41 : decode cX11_isName 41 = .ok (.iconst 0, 1) := by decide +kernel
theorem dX11_isName_42 : decode cX11_isName 42 = .ok (.ireturn, 1) := by decide +kernel
theorem dX11_isName_43 : decode cX11_isName 43 = .ok (.iinc 3 1, 3) := by decide +kernel
theorem dX11_isName_46 : decode cX11_isName 46 = .ok (.goto (-19), 3) := by decide +kernel
theorem dX11_isName_49 : decode cX11_isName 49 = .ok (.iload_n 2, 1) := by decide +kernel
theorem dX11_isName_50 : decode cX11_isName 50 = .ok (.ifCond .le 7, 3) := by decide +kernel
theorem dX11_isName_53 : decode cX11_isName 53 = .ok (.iconst 1, 1) := by decide +kernel
theorem dX11_isName_54 : decode cX11_isName 54 = .ok (.goto 4, 3) := by decide +kernel
theorem dX11_isName_57 : decode cX11_isName 57 = .ok (.iconst 0, 1) := by decide +kernel
theorem dX11_isName_58 : decode cX11_isName 58 = .ok (.ireturn, 1) := by decide +kernel
theorem dX11_may_0 : decode cX11_may 0 = .ok (.aload_n 0, 1) := by decide +kernel
theorem dX11_may_1 : decode cX11_may 1 = .ok (.getfield 330, 3) := by decide +kernel
theorem dX11_may_4 : decode cX11_may 4 = .ok (.ifCond .ne 5, 3) := by decide +kernel
theorem dX11_may_7 : decode cX11_may 7 = .ok (.iconst 1, 1) := by decide +kernel
theorem dX11_may_8 : decode cX11_may 8 = .ok (.ireturn, 1) := by decide +kernel
theorem dX11_may_9 : decode cX11_may 9 = .ok (.aload_n 0, 1) := by decide +kernel
theorem dX11_may_10 : decode cX11_may 10 = .ok (.getfield 59, 3) := by decide +kernel
theorem dX11_may_13 : decode cX11_may 13 = .ok (.iload_n 1, 1) := by decide +kernel
theorem dX11_may_14 : decode cX11_may 14 = .ok (.iaload, 1) := by decide +kernel
theorem dX11_may_15 : decode cX11_may 15 = .ok (.aload_n 0, 1) := by decide +kernel
theorem dX11_may_16 : decode cX11_may 16 = .ok (.getfield 330, 3) := by decide +kernel
theorem dX11_may_19 : decode cX11_may 19 = .ok (.if_icmp .ne 14, 3) := by decide +kernel
theorem dX11_may_22 : decode cX11_may 22 = .ok (.aload_n 0, 1) := by decide +kernel
theorem dX11_may_23 : decode cX11_may 23 = .ok (.getfield 62, 3) := by decide +kernel
theorem dX11_may_26 : decode cX11_may 26 = .ok (.iload_n 1, 1) := by decide +kernel
theorem dX11_may_27 : decode cX11_may 27 = .ok (.iaload, 1) := by decide +kernel
theorem dX11_may_28 : decode cX11_may 28 = .ok (.iconst 3, 1) := by decide +kernel
theorem dX11_may_29 : decode cX11_may 29 = .ok (.ishr, 1) := by decide +kernel
theorem dX11_may_30 : decode cX11_may 30 = .ok (.goto 9, 3) := by decide +kernel
theorem dX11_may_33 : decode cX11_may 33 = .ok (.aload_n 0, 1) := by decide +kernel
theorem dX11_may_34 : decode cX11_may 34 = .ok (.getfield 62, 3) := by decide +kernel
theorem dX11_may_37 : decode cX11_may 37 = .ok (.iload_n 1, 1) := by decide +kernel
theorem dX11_may_38 : decode cX11_may 38 = .ok (.iaload, 1) := by decide +kernel
theorem dX11_may_39 : decode cX11_may 39 = .ok (.istore_n 3, 1) := by decide +kernel
theorem dX11_may_40 : decode cX11_may 40 = .ok (.iload_n 3, 1) := by decide +kernel
theorem dX11_may_41 : decode cX11_may 41 = .ok (.iload_n 2, 1) := by decide +kernel
theorem dX11_may_42 : decode cX11_may 42 = .ok (.iand, 1) := by decide +kernel
theorem dX11_may_43 : decode cX11_may 43 = .ok (.iload_n 2, 1) := by decide +kernel
theorem dX11_may_44 : decode cX11_may 44 = .ok (.if_icmp .ne 7, 3) := by decide +kernel
theorem dX11_may_47 : decode cX11_may 47 = .ok (.iconst 1, 1) := by decide +kernel
theorem dX11_may_48 : decode cX11_may 48 = .ok (.goto 4, 3) := by decide +kernel
theorem dX11_may_51 : decode cX11_may 51 = .ok (.iconst 0, 1) := by decide +kernel
theorem dX11_may_52 : decode cX11_may 52 = .ok (.ireturn, 1) := by decide +kernel
theorem dX11_slots_0 : decode cX11_slots 0 = .ok (.iconst 4, 1) := by decide +kernel
theorem dX11_slots_1 : decode cX11_slots 1 = .ok (.aload_n 0, 1) := by decide +kernel
theorem dX11_slots_2 : decode cX11_slots 2 = .ok (.getfield 49, 3) := by decide +kernel
theorem dX11_slots_5 : decode cX11_slots 5 = .ok (.iload_n 1, 1) := by decide +kernel
theorem dX11_slots_6 : decode cX11_slots 6 = .ok (.iaload, 1) := by decide +kernel
theorem dX11_slots_7 : decode cX11_slots 7 = .ok (.imul, 1) := by decide +kernel
theorem dX11_slots_8 : decode cX11_slots 8 = .ok (.ireturn, 1) := by decide +kernel
theorem dX11_slotOf_0 : decode cX11_slotOf 0 = .ok (.bipush 48, 2) := by decide +kernel
theorem dX11_slotOf_2 : decode cX11_slotOf 2 = .ok (.iload_n 1, 1) := by decide +kernel
theorem dX11_slotOf_3 : decode cX11_slotOf 3 = .ok (.imul, 1) := by decide +kernel
theorem dX11_slotOf_4 : decode cX11_slotOf 4 = .ok (.istore 4, 2) := by decide +kernel
theorem dX11_slotOf_6 : decode cX11_slotOf 6 = .ok (.iload 4, 2) := by decide +kernel
theorem dX11_slotOf_8 : decode cX11_slotOf 8 = .ok (.bipush 48, 2) := by decide +kernel
theorem dX11_slotOf_10 : decode cX11_slotOf 10 = .ok (.iload_n 1, 1) := by decide +kernel
theorem dX11_slotOf_11 : decode cX11_slotOf 11 = .ok (.imul, 1) := by decide +kernel
theorem dX11_slotOf_12 : decode cX11_slotOf 12 = .ok (.aload_n 0, 1) := by decide +kernel
theorem dX11_slotOf_13 : decode cX11_slotOf 13 = .ok (.iload_n 1, 1) := by decide +kernel
theorem dX11_slotOf_14 : decode cX11_slotOf 14 = .ok (.invokevirtual 315, 3) := by decide +kernel
theorem dX11_slotOf_17 : decode cX11_slotOf 17 = .ok (.iadd, 1) := by decide +kernel
theorem dX11_slotOf_18 : decode cX11_slotOf 18 = .ok (.if_icmp .ge 35, 3) := by decide +kernel
theorem dX11_slotOf_21 : decode cX11_slotOf 21 = .ok (.aload_n 0, 1) := by decide +kernel
theorem dX11_slotOf_22 : decode cX11_slotOf 22 = .ok (.getfield 68, 3) := by decide +kernel
theorem dX11_slotOf_25 : decode cX11_slotOf 25 = .ok (.iload 4, 2) := by decide +kernel
theorem dX11_slotOf_27 : decode cX11_slotOf 27 = .ok (.iaload, 1) := by decide +kernel
theorem dX11_slotOf_28 : decode cX11_slotOf 28 = .ok (.iconst (-1), 1) := by decide +kernel
theorem dX11_slotOf_29 : decode cX11_slotOf 29 = .ok (.if_icmp .eq 18, 3) := by decide +kernel
theorem dX11_slotOf_32 : decode cX11_slotOf 32 = .ok (.aload_n 0, 1) := by decide +kernel
theorem dX11_slotOf_33 : decode cX11_slotOf 33 = .ok (.getfield 71, 3) := by decide +kernel
theorem dX11_slotOf_36 : decode cX11_slotOf 36 = .ok (.iload 4, 2) := by decide +kernel
theorem dX11_slotOf_38 : decode cX11_slotOf 38 = .ok (.laload, 1) := by decide +kernel
theorem dX11_slotOf_39 : decode cX11_slotOf 39 = .ok (.lload_n 2, 1) := by decide +kernel
theorem dX11_slotOf_40 : decode cX11_slotOf 40 = .ok (.lcmp, 1) := by decide +kernel
theorem dX11_slotOf_41 : decode cX11_slotOf 41 = .ok (.ifCond .ne 6, 3) := by decide +kernel
theorem dX11_slotOf_44 : decode cX11_slotOf 44 = .ok (.iload 4, 2) := by decide +kernel
theorem dX11_slotOf_46 : decode cX11_slotOf 46 = .ok (.ireturn, 1) := by decide +kernel
theorem dX11_slotOf_47 : decode cX11_slotOf 47 = .ok (.iinc 4 1, 3) := by decide +kernel
theorem dX11_slotOf_50 : decode cX11_slotOf 50 = .ok (.goto (-44), 3) := by decide +kernel
theorem dX11_slotOf_53 : decode cX11_slotOf 53 = .ok (.iconst (-1), 1) := by decide +kernel
theorem dX11_slotOf_54 : decode cX11_slotOf 54 = .ok (.ireturn, 1) := by decide +kernel
theorem dX11_refusal_0 : decode cX11_refusal 0 = .ok (.aload_n 0, 1) := by decide +kernel
theorem dX11_refusal_1 : decode cX11_refusal 1 = .ok (.iload_n 1, 1) := by decide +kernel
theorem dX11_refusal_2 : decode cX11_refusal 2 = .ok (.invokevirtual 339, 3) := by decide +kernel
theorem dX11_refusal_5 : decode cX11_refusal 5 = .ok (.ifCond .ne 6, 3) := by decide +kernel
theorem dX11_refusal_8 : decode cX11_refusal 8 = .ok (.bipush (-10), 2) := by decide +kernel
theorem dX11_refusal_10 : decode cX11_refusal 10 = .ok (.ireturn, 1) := by decide +kernel
theorem dX11_refusal_11 : decode cX11_refusal 11 = .ok (.lload_n 2, 1) := by decide +kernel
theorem dX11_refusal_12 : decode cX11_refusal 12 = .ok (.invokestatic 342, 3) := by decide +kernel
theorem dX11_refusal_15 : decode cX11_refusal 15 = .ok (.ifCond .ne 6, 3) := by decide +kernel
theorem dX11_refusal_18 : decode cX11_refusal 18 = .ok (.bipush (-11), 2) := by decide +kernel
theorem dX11_refusal_20 : decode cX11_refusal 20 = .ok (.ireturn, 1) := by decide +kernel
theorem dX11_refusal_21 : decode cX11_refusal 21 = .ok (.aload_n 0, 1) := by decide +kernel
theorem dX11_refusal_22 : decode cX11_refusal 22 = .ok (.iload_n 1, 1) := by decide +kernel
theorem dX11_refusal_23 : decode cX11_refusal 23 = .ok (.iconst 3, 1) := by decide +kernel
theorem dX11_refusal_24 : decode cX11_refusal 24 = .ok (.invokevirtual 346, 3) := by decide +kernel
theorem dX11_refusal_27 : decode cX11_refusal 27 = .ok (.ifCond .ne 6, 3) := by decide +kernel
theorem dX11_refusal_30 : decode cX11_refusal 30 = .ok (.bipush (-20), 2) := by decide +kernel
theorem dX11_refusal_32 : decode cX11_refusal 32 = .ok (.ireturn, 1) := by decide +kernel
theorem dX11_refusal_33 : decode cX11_refusal 33 = .ok (.aload_n 0, 1) := by decide +kernel
theorem dX11_refusal_34 : decode cX11_refusal 34 = .ok (.iload_n 1, 1) := by decide +kernel
theorem dX11_refusal_35 : decode cX11_refusal 35 = .ok (.lload_n 2, 1) := by decide +kernel
theorem dX11_refusal_36 : decode cX11_refusal 36 = .ok (.invokevirtual 349, 3) := by decide +kernel
theorem dX11_refusal_39 : decode cX11_refusal 39 = .ok (.iconst (-1), 1) := by decide +kernel
theorem dX11_refusal_40 : decode cX11_refusal 40 = .ok (.if_icmp .eq 8, 3) := by decide +kernel
theorem dX11_refusal_43 : decode cX11_refusal 43 = .ok (.bipush (-13), 2) := by decide +kernel
theorem dX11_refusal_45 : decode cX11_refusal 45 = .ok (.goto 4, 3) := by decide +kernel
theorem dX11_refusal_48 : decode cX11_refusal 48 = .ok (.iconst 0, 1) := by decide +kernel
theorem dX11_refusal_49 : decode cX11_refusal 49 = .ok (.ireturn, 1) := by decide +kernel
theorem dX11_freeNode_0 : decode cX11_freeNode 0 = .ok (.iconst 0, 1) := by decide +kernel
theorem dX11_freeNode_1 : decode cX11_freeNode 1 = .ok (.istore_n 1, 1) := by decide +kernel
theorem dX11_freeNode_2 : decode cX11_freeNode 2 = .ok (.iload_n 1, 1) := by decide +kernel
theorem dX11_freeNode_3 : decode cX11_freeNode 3 = .ok (.bipush 64, 2) := by decide +kernel
theorem dX11_freeNode_5 : decode cX11_freeNode 5 = .ok (.if_icmp .ge 20, 3) := by decide +kernel
theorem dX11_freeNode_8 : decode cX11_freeNode 8 = .ok (.aload_n 0, 1) := by decide +kernel
theorem dX11_freeNode_9 : decode cX11_freeNode 9 = .ok (.getfield 40, 3) := by decide +kernel
theorem dX11_freeNode_12 : decode cX11_freeNode 12 = .ok (.iload_n 1, 1) := by decide +kernel
theorem dX11_freeNode_13 : decode cX11_freeNode 13 = .ok (.iaload, 1) := by decide +kernel
theorem dX11_freeNode_14 : decode cX11_freeNode 14 = .ok (.ifCond .ne 5, 3) := by decide +kernel
theorem dX11_freeNode_17 : decode cX11_freeNode 17 = .ok (.iload_n 1, 1) := by decide +kernel
theorem dX11_freeNode_18 : decode cX11_freeNode 18 = .ok (.ireturn, 1) := by decide +kernel
theorem dX11_freeNode_19 : decode cX11_freeNode 19 = .ok (.iinc 1 1, 3) := by decide +kernel
theorem dX11_freeNode_22 : decode cX11_freeNode 22 = .ok (.goto (-20), 3) := by decide +kernel
theorem dX11_freeNode_25 : decode cX11_freeNode 25 = .ok (.iconst (-1), 1) := by decide +kernel
theorem dX11_freeNode_26 : decode cX11_freeNode 26 = .ok (.ireturn, 1) := by decide +kernel
theorem dX11_freeSlot_0 : decode cX11_freeSlot 0 = .ok (.bipush 48, 2) := by decide +kernel
theorem dX11_freeSlot_2 : decode cX11_freeSlot 2 = .ok (.iload_n 1, 1) := by decide +kernel
theorem dX11_freeSlot_3 : decode cX11_freeSlot 3 = .ok (.imul, 1) := by decide +kernel
theorem dX11_freeSlot_4 : decode cX11_freeSlot 4 = .ok (.istore_n 2, 1) := by decide +kernel
theorem dX11_freeSlot_5 : decode cX11_freeSlot 5 = .ok (.iload_n 2, 1) := by decide +kernel
theorem dX11_freeSlot_6 : decode cX11_freeSlot 6 = .ok (.bipush 48, 2) := by decide +kernel
theorem dX11_freeSlot_8 : decode cX11_freeSlot 8 = .ok (.iload_n 1, 1) := by decide +kernel
theorem dX11_freeSlot_9 : decode cX11_freeSlot 9 = .ok (.imul, 1) := by decide +kernel
theorem dX11_freeSlot_10 : decode cX11_freeSlot 10 = .ok (.aload_n 0, 1) := by decide +kernel
theorem dX11_freeSlot_11 : decode cX11_freeSlot 11 = .ok (.iload_n 1, 1) := by decide +kernel
theorem dX11_freeSlot_12 : decode cX11_freeSlot 12 = .ok (.invokevirtual 315, 3) := by decide +kernel
theorem dX11_freeSlot_15 : decode cX11_freeSlot 15 = .ok (.iadd, 1) := by decide +kernel
theorem dX11_freeSlot_16 : decode cX11_freeSlot 16 = .ok (.if_icmp .ge 21, 3) := by decide +kernel
theorem dX11_freeSlot_19 : decode cX11_freeSlot 19 = .ok (.aload_n 0, 1) := by decide +kernel
theorem dX11_freeSlot_20 : decode cX11_freeSlot 20 = .ok (.getfield 68, 3) := by decide +kernel
theorem dX11_freeSlot_23 : decode cX11_freeSlot 23 = .ok (.iload_n 2, 1) := by decide +kernel
theorem dX11_freeSlot_24 : decode cX11_freeSlot 24 = .ok (.iaload, 1) := by decide +kernel
theorem dX11_freeSlot_25 : decode cX11_freeSlot 25 = .ok (.iconst (-1), 1) := by decide +kernel
theorem dX11_freeSlot_26 : decode cX11_freeSlot 26 = .ok (.if_icmp .ne 5, 3) := by decide +kernel
theorem dX11_freeSlot_29 : decode cX11_freeSlot 29 = .ok (.iload_n 2, 1) := by decide +kernel
theorem dX11_freeSlot_30 : decode cX11_freeSlot 30 = .ok (.ireturn, 1) := by decide +kernel
theorem dX11_freeSlot_31 : decode cX11_freeSlot 31 = .ok (.iinc 2 1, 3) := by decide +kernel
theorem dX11_freeSlot_34 : decode cX11_freeSlot 34 = .ok (.goto (-29), 3) := by decide +kernel
theorem dX11_freeSlot_37 : decode cX11_freeSlot 37 = .ok (.iconst (-1), 1) := by decide +kernel
theorem dX11_freeSlot_38 : decode cX11_freeSlot 38 = .ok (.ireturn, 1) := by decide +kernel
theorem dX11_freeBlock_0 : decode cX11_freeBlock 0 = .ok (.aload_n 0, 1) := by decide +kernel
theorem dX11_freeBlock_1 : decode cX11_freeBlock 1 = .ok (.getfield 177, 3) := by decide +kernel
theorem dX11_freeBlock_4 : decode cX11_freeBlock 4 = .ok (.istore_n 2, 1) := by decide +kernel
theorem dX11_freeBlock_5 : decode cX11_freeBlock 5 = .ok (.iload_n 2, 1) := by decide +kernel
theorem dX11_freeBlock_6 : decode cX11_freeBlock 6 = .ok (.aload_n 0, 1) := by decide +kernel
theorem dX11_freeBlock_7 : decode cX11_freeBlock 7 = .ok (.getfield 168, 3) := by decide +kernel
theorem dX11_freeBlock_10 : decode cX11_freeBlock 10 = .ok (.if_icmp .ge 30, 3) := by decide +kernel
theorem dX11_freeBlock_13 : decode cX11_freeBlock 13 = .ok (.aload_n 0, 1) := by decide +kernel
theorem dX11_freeBlock_14 : decode cX11_freeBlock 14 = .ok (.getfield 82, 3) := by decide +kernel
theorem dX11_freeBlock_17 : decode cX11_freeBlock 17 = .ok (.iload_n 2, 1) := by decide +kernel
theorem dX11_freeBlock_18 : decode cX11_freeBlock 18 = .ok (.baload, 1) := by decide +kernel
theorem dX11_freeBlock_19 : decode cX11_freeBlock 19 = .ok (.ifCond .ne 15, 3) := by decide +kernel
theorem dX11_freeBlock_22 : decode cX11_freeBlock 22 = .ok (.iload_n 2, 1) := by decide +kernel
theorem dX11_freeBlock_23 : decode cX11_freeBlock 23 = .ok (.aload_n 0, 1) := by decide +kernel
theorem dX11_freeBlock_24 : decode cX11_freeBlock 24 = .ok (.getfield 165, 3) := by decide +kernel
theorem dX11_freeBlock_27 : decode cX11_freeBlock 27 = .ok (.idiv, 1) := by decide +kernel
theorem dX11_freeBlock_28 : decode cX11_freeBlock 28 = .ok (.iload_n 1, 1) := by decide +kernel
theorem dX11_freeBlock_29 : decode cX11_freeBlock 29 = .ok (.if_icmp .eq 5, 3) := by decide +kernel
theorem dX11_freeBlock_32 : decode cX11_freeBlock 32 = .ok (.iload_n 2, 1) := by decide +kernel
theorem dX11_freeBlock_33 : decode cX11_freeBlock 33 = .ok (.ireturn, 1) := by decide +kernel
theorem dX11_freeBlock_34 : decode cX11_freeBlock 34 = .ok (.iinc 2 1, 3) := by decide +kernel
theorem dX11_freeBlock_37 : decode cX11_freeBlock 37 = .ok (.goto (-32), 3) := by decide +kernel
theorem dX11_freeBlock_40 : decode cX11_freeBlock 40 = .ok (.iconst (-1), 1) := by decide +kernel
theorem dX11_freeBlock_41 : decode cX11_freeBlock 41 = .ok (.ireturn, 1) := by decide +kernel
theorem dX11_hasRoom_0 : decode cX11_hasRoom 0 = .ok (.aload_n 0, 1) := by decide +kernel
theorem dX11_hasRoom_1 : decode cX11_hasRoom 1 = .ok (.iload_n 1, 1) := by decide +kernel
theorem dX11_hasRoom_2 : decode cX11_hasRoom 2 = .ok (.invokevirtual 318, 3) := by decide +kernel
theorem dX11_hasRoom_5 : decode cX11_hasRoom 5 = .ok (.iconst (-1), 1) := by decide +kernel
theorem dX11_hasRoom_6 : decode cX11_hasRoom 6 = .ok (.if_icmp .ne 23, 3) := by decide +kernel
theorem dX11_hasRoom_9 : decode cX11_hasRoom 9 = .ok (.aload_n 0, 1) := by decide +kernel
theorem dX11_hasRoom_10 : decode cX11_hasRoom 10 = .ok (.getfield 49, 3) := by decide +kernel
theorem dX11_hasRoom_13 : decode cX11_hasRoom 13 = .ok (.iload_n 1, 1) := by decide +kernel
theorem dX11_hasRoom_14 : decode cX11_hasRoom 14 = .ok (.iaload, 1) := by decide +kernel
theorem dX11_hasRoom_15 : decode cX11_hasRoom 15 = .ok (.bipush 12, 2) := by decide +kernel
theorem dX11_hasRoom_17 : decode cX11_hasRoom 17 = .ok (.if_icmp .ge 16, 3) := by decide +kernel
theorem dX11_hasRoom_20 : decode cX11_hasRoom 20 = .ok (.aload_n 0, 1) := by decide +kernel
theorem dX11_hasRoom_21 : decode cX11_hasRoom 21 = .ok (.iload_n 2, 1) := by decide +kernel
theorem dX11_hasRoom_22 : decode cX11_hasRoom 22 = .ok (.invokevirtual 297, 3) := by decide +kernel
theorem dX11_hasRoom_25 : decode cX11_hasRoom 25 = .ok (.iconst (-1), 1) := by decide +kernel
theorem dX11_hasRoom_26 : decode cX11_hasRoom 26 = .ok (.if_icmp .eq 7, 3) := by decide +kernel
theorem dX11_hasRoom_29 : decode cX11_hasRoom 29 = .ok (.iconst 1, 1) := by decide +kernel
