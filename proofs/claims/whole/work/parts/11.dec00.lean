theorem dX7_append_0 : decode cX7_append 0 = .ok (.bipush 24, 2) := by decide +kernel
theorem dX7_append_2 : decode cX7_append 2 = .ok (.istore_n 2, 1) := by decide +kernel
theorem dX7_append_3 : decode cX7_append 3 = .ok (.iload_n 2, 1) := by decide +kernel
theorem dX7_append_4 : decode cX7_append 4 = .ok (.ifCond .lt 47, 3) := by decide +kernel
theorem dX7_append_7 : decode cX7_append 7 = .ok (.aload_n 0, 1) := by decide +kernel
theorem dX7_append_8 : decode cX7_append 8 = .ok (.getfield 13, 3) := by decide +kernel
theorem dX7_append_11 : decode cX7_append 11 = .ok (.aload_n 0, 1) := by decide +kernel
theorem dX7_append_12 : decode cX7_append 12 = .ok (.getfield 7, 3) := by decide +kernel
theorem dX7_append_15 : decode cX7_append 15 = .ok (.arraylength, 1) := by decide +kernel
theorem dX7_append_16 : decode cX7_append 16 = .ok (.if_icmp .ge 29, 3) := by decide +kernel
theorem dX7_append_19 : decode cX7_append 19 = .ok (.aload_n 0, 1) := by decide +kernel
theorem dX7_append_20 : decode cX7_append 20 = .ok (.getfield 7, 3) := by decide +kernel
theorem dX7_append_23 : decode cX7_append 23 = .ok (.aload_n 0, 1) := by decide +kernel
theorem dX7_append_24 : decode cX7_append 24 = .ok (.getfield 13, 3) := by decide +kernel
theorem dX7_append_27 : decode cX7_append 27 = .ok (.iload_n 1, 1) := by decide +kernel
theorem dX7_append_28 : decode cX7_append 28 = .ok (.iload_n 2, 1) := by decide +kernel
theorem dX7_append_29 : decode cX7_append 29 = .ok (.iushr, 1) := by decide +kernel
theorem dX7_append_30 : decode cX7_append 30 = .ok (.sipush 255, 3) := by decide +kernel
theorem dX7_append_33 : decode cX7_append 33 = .ok (.iand, 1) := by decide +kernel
theorem dX7_append_34 : decode cX7_append 34 = .ok (.iastore, 1) := by decide +kernel
theorem dX7_append_35 : decode cX7_append 35 = .ok (.aload_n 0, 1) := by decide +kernel
theorem dX7_append_36 : decode cX7_append 36 = .ok (.dup, 1) := by decide +kernel
theorem dX7_append_37 : decode cX7_append 37 = .ok (.getfield 13, 3) := by decide +kernel
theorem dX7_append_40 : decode cX7_append 40 = .ok (.iconst 1, 1) := by decide +kernel
theorem dX7_append_41 : decode cX7_append 41 = .ok (.iadd, 1) := by decide +kernel
theorem dX7_append_42 : decode cX7_append 42 = .ok (.putfield 13, 3) := by decide +kernel
theorem dX7_append_45 : decode cX7_append 45 = .ok (.iinc 2 (-8), 3) := by decide +kernel
theorem dX7_append_48 : decode cX7_append 48 = .ok (.goto (-45), 3) := by decide +kernel
theorem dX7_append_51 : decode cX7_append 51 = .ok (.return_, 1) := by decide +kernel
theorem dX10_feed_0 : decode cX10_feed 0 = .ok (.aload_n 0, 1) := by decide +kernel
theorem dX10_feed_1 : decode cX10_feed 1 = .ok (.getfield 79, 3) := by decide +kernel
theorem dX10_feed_4 : decode cX10_feed 4 = .ok (.getfield 116, 3) := by decide +kernel
theorem dX10_feed_7 : decode cX10_feed 7 = .ok (.bipush 20, 2) := by decide +kernel
theorem dX10_feed_9 : decode cX10_feed 9 = .ok (.iadd, 1) := by decide +kernel
theorem dX10_feed_10 : decode cX10_feed 10 = .ok (.sipush 1280, 3) := by decide +kernel
theorem dX10_feed_13 : decode cX10_feed 13 = .ok (.if_icmp .le 5, 3) := by decide +kernel
theorem dX10_feed_16 : decode cX10_feed 16 = .ok (.iconst 0, 1) := by decide +kernel
theorem dX10_feed_17 : decode cX10_feed 17 = .ok (.ireturn, 1) := by decide +kernel
theorem dX10_feed_18 : decode cX10_feed 18 = .ok (.aload_n 0, 1) := by decide +kernel
theorem dX10_feed_19 : decode cX10_feed 19 = .ok (.getfield 79, 3) := by decide +kernel
theorem dX10_feed_22 : decode cX10_feed 22 = .ok (.iload_n 1, 1) := by decide +kernel
theorem dX10_feed_23 : decode cX10_feed 23 = .ok (.invokevirtual 119, 3) := by decide +kernel
theorem dX10_feed_26 : decode cX10_feed 26 = .ok (.aload_n 0, 1) := by decide +kernel
theorem dX10_feed_27 : decode cX10_feed 27 = .ok (.getfield 79, 3) := by decide +kernel
theorem dX10_feed_30 : decode cX10_feed 30 = .ok (.iload_n 2, 1) := by decide +kernel
theorem dX10_feed_31 : decode cX10_feed 31 = .ok (.invokevirtual 119, 3) := by decide +kernel
theorem dX10_feed_34 : decode cX10_feed 34 = .ok (.aload_n 0, 1) := by decide +kernel
theorem dX10_feed_35 : decode cX10_feed 35 = .ok (.getfield 79, 3) := by decide +kernel
theorem dX10_feed_38 : decode cX10_feed 38 = .ok (.iload_n 3, 1) := by decide +kernel
theorem dX10_feed_39 : decode cX10_feed 39 = .ok (.invokevirtual 119, 3) := by decide +kernel
theorem dX10_feed_42 : decode cX10_feed 42 = .ok (.aload_n 0, 1) := by decide +kernel
theorem dX10_feed_43 : decode cX10_feed 43 = .ok (.getfield 79, 3) := by decide +kernel
theorem dX10_feed_46 : decode cX10_feed 46 = .ok (.iload 4, 2) := by decide +kernel
theorem dX10_feed_48 : decode cX10_feed 48 = .ok (.invokevirtual 119, 3) := by decide +kernel
theorem dX10_feed_51 : decode cX10_feed 51 = .ok (.aload_n 0, 1) := by decide +kernel
theorem dX10_feed_52 : decode cX10_feed 52 = .ok (.getfield 79, 3) := by decide +kernel
theorem dX10_feed_55 : decode cX10_feed 55 = .ok (.iload 5, 2) := by decide +kernel
theorem dX10_feed_57 : decode cX10_feed 57 = .ok (.invokevirtual 119, 3) := by decide +kernel
theorem dX10_feed_60 : decode cX10_feed 60 = .ok (.iconst 1, 1) := by decide +kernel
theorem dX10_feed_61 : decode cX10_feed 61 = .ok (.ireturn, 1) := by decide +kernel
theorem dX10_end_0 : decode cX10_end 0 = .ok (.iload_n 1, 1) := by decide +kernel
theorem dX10_end_1 : decode cX10_end 1 = .ok (.ifCond .lt 14, 3) := by decide +kernel
theorem dX10_end_4 : decode cX10_end 4 = .ok (.iload_n 1, 1) := by decide +kernel
theorem dX10_end_5 : decode cX10_end 5 = .ok (.aload_n 0, 1) := by decide +kernel
theorem dX10_end_6 : decode cX10_end 6 = .ok (.getfield 79, 3) := by decide +kernel
theorem dX10_end_9 : decode cX10_end 9 = .ok (.getfield 116, 3) := by decide +kernel
theorem dX10_end_12 : decode cX10_end 12 = .ok (.if_icmp .le 5, 3) := by decide +kernel
theorem dX10_end_15 : decode cX10_end 15 = .ok (.iconst 0, 1) := by decide +kernel
theorem dX10_end_16 : decode cX10_end 16 = .ok (.ireturn, 1) := by decide +kernel
theorem dX10_end_17 : decode cX10_end 17 = .ok (.aload_n 0, 1) := by decide +kernel
theorem dX10_end_18 : decode cX10_end 18 = .ok (.getfield 79, 3) := by decide +kernel
theorem dX10_end_21 : decode cX10_end 21 = .ok (.iload_n 1, 1) := by decide +kernel
theorem dX10_end_22 : decode cX10_end 22 = .ok (.putfield 116, 3) := by decide +kernel
theorem dX10_end_25 : decode cX10_end 25 = .ok (.iconst 1, 1) := by decide +kernel
theorem dX10_end_26 : decode cX10_end 26 = .ok (.ireturn, 1) := by decide +kernel
theorem dX10_as_0 : decode cX10_as 0 = .ok (.aload_n 0, 1) := by decide +kernel
theorem dX10_as_1 : decode cX10_as 1 = .ok (.getfield 53, 3) := by decide +kernel
theorem dX10_as_4 : decode cX10_as 4 = .ok (.getfield 122, 3) := by decide +kernel
theorem dX10_as_7 : decode cX10_as 7 = .ok (.ifCond .ne 6, 3) := by decide +kernel
theorem dX10_as_10 : decode cX10_as 10 = .ok (.bipush (-99), 2) := by decide +kernel
theorem dX10_as_12 : decode cX10_as 12 = .ok (.ireturn, 1) := by decide +kernel
theorem dX10_as_13 : decode cX10_as 13 = .ok (.iload_n 1, 1) := by decide +kernel
theorem dX10_as_14 : decode cX10_as 14 = .ok (.ifCond .lt 9, 3) := by decide +kernel
theorem dX10_as_17 : decode cX10_as 17 = .ok (.iload_n 1, 1) := by decide +kernel
theorem dX10_as_18 : decode cX10_as 18 = .ok (.bipush 16, 2) := by decide +kernel
theorem dX10_as_20 : decode cX10_as 20 = .ok (.if_icmp .lt 6, 3) := by decide +kernel
theorem dX10_as_23 : decode cX10_as 23 = .ok (.bipush (-15), 2) := by decide +kernel
theorem dX10_as_25 : decode cX10_as 25 = .ok (.ireturn, 1) := by decide +kernel
theorem dX10_as_26 : decode cX10_as 26 = .ok (.aload_n 0, 1) := by decide +kernel
theorem dX10_as_27 : decode cX10_as 27 = .ok (.getfield 113, 3) := by decide +kernel
theorem dX10_as_30 : decode cX10_as 30 = .ok (.istore_n 2, 1) := by decide +kernel
theorem dX10_as_31 : decode cX10_as 31 = .ok (.aload_n 0, 1) := by decide +kernel
theorem dX10_as_32 : decode cX10_as 32 = .ok (.iload_n 1, 1) := by decide +kernel
theorem dX10_as_33 : decode cX10_as 33 = .ok (.putfield 113, 3) := by decide +kernel
theorem dX10_as_36 : decode cX10_as 36 = .ok (.iload_n 2, 1) := by decide +kernel
theorem dX10_as_37 : decode cX10_as 37 = .ok (.ireturn, 1) := by decide +kernel
theorem dJ7_fill_d0a16_0 : decode cJ7_fill_d0a16 0 = .ok (.iconst 0, 1) := by decide +kernel
theorem dJ7_fill_d0a16_1 : decode cJ7_fill_d0a16 1 = .ok (.istore_n 3, 1) := by decide +kernel
theorem dJ7_fill_d0a16_2 : decode cJ7_fill_d0a16 2 = .ok (.aload_n 0, 1) := by decide +kernel
theorem dJ7_fill_d0a16_3 : decode cJ7_fill_d0a16 3 = .ok (.arraylength, 1) := by decide +kernel
theorem dJ7_fill_d0a16_4 : decode cJ7_fill_d0a16 4 = .ok (.istore 4, 2) := by decide +kernel
theorem dJ7_fill_d0a16_6 : decode cJ7_fill_d0a16 6 = .ok (.iload_n 3, 1) := by decide +kernel
theorem dJ7_fill_d0a16_7 : decode cJ7_fill_d0a16 7 = .ok (.iload 4, 2) := by decide +kernel
theorem dJ7_fill_d0a16_9 : decode cJ7_fill_d0a16 9 = .ok (.if_icmp .ge 13, 3) := by decide +kernel
theorem dJ7_fill_d0a16_12 : decode cJ7_fill_d0a16 12 = .ok (.aload_n 0, 1) := by decide +kernel
theorem dJ7_fill_d0a16_13 : decode cJ7_fill_d0a16 13 = .ok (.iload_n 3, 1) := by decide +kernel
theorem dJ7_fill_d0a16_14 : decode cJ7_fill_d0a16 14 = .ok (.lload_n 1, 1) := by decide +kernel
theorem dJ7_fill_d0a16_15 : decode cJ7_fill_d0a16 15 = .ok (.lastore, 1) := by decide +kernel
theorem dJ7_fill_d0a16_16 : decode cJ7_fill_d0a16 16 = .ok (.iinc 3 1, 3) := by decide +kernel
theorem dJ7_fill_d0a16_19 : decode cJ7_fill_d0a16 19 = .ok (.goto (-13), 3) := by decide +kernel
theorem dJ7_fill_d0a16_22 : decode cJ7_fill_d0a16 22 = .ok (.return_, 1) := by decide +kernel
theorem dX8_freePlaces_0 : decode cX8_freePlaces 0 = .ok (.aload_n 0, 1) := by decide +kernel
theorem dX8_freePlaces_1 : decode cX8_freePlaces 1 = .ok (.getfield 9, 3) := by decide +kernel
theorem dX8_freePlaces_4 : decode cX8_freePlaces 4 = .ok (.getfield 28, 3) := by decide +kernel
theorem dX8_freePlaces_7 : decode cX8_freePlaces 7 = .ok (.aload_n 0, 1) := by decide +kernel
theorem dX8_freePlaces_8 : decode cX8_freePlaces 8 = .ok (.getfield 65, 3) := by decide +kernel
theorem dX8_freePlaces_11 : decode cX8_freePlaces 11 = .ok (.aload_n 0, 1) := by decide +kernel
theorem dX8_freePlaces_12 : decode cX8_freePlaces 12 = .ok (.getfield 68, 3) := by decide +kernel
theorem dX8_freePlaces_15 : decode cX8_freePlaces 15 = .ok (.isub, 1) := by decide +kernel
theorem dX8_freePlaces_16 : decode cX8_freePlaces 16 = .ok (.isub, 1) := by decide +kernel
theorem dX8_freePlaces_17 : decode cX8_freePlaces 17 = .ok (.ireturn, 1) := by decide +kernel
theorem dX2_spend_0 : decode cX2_spend 0 = .ok (.aload_n 0, 1) := by decide +kernel
theorem dX2_spend_1 : decode cX2_spend 1 = .ok (.getfield 51, 3) := by decide +kernel
theorem dX2_spend_4 : decode cX2_spend 4 = .ok (.ifCond .ne 15, 3) := by decide +kernel
theorem dX2_spend_7 : decode cX2_spend 7 = .ok (.aload_n 0, 1) := by decide +kernel
theorem dX2_spend_8 : decode cX2_spend 8 = .ok (.iconst (-1), 1) := by decide +kernel
theorem dX2_spend_9 : decode cX2_spend 9 = .ok (.putfield 51, 3) := by decide +kernel
theorem dX2_spend_12 : decode cX2_spend 12 = .ok (.aload_n 0, 1) := by decide +kernel
theorem dX2_spend_13 : decode cX2_spend 13 = .ok (.iconst 0, 1) := by decide +kernel
theorem dX2_spend_14 : decode cX2_spend 14 = .ok (.putfield 47, 3) := by decide +kernel
theorem dX2_spend_17 : decode cX2_spend 17 = .ok (.iconst 0, 1) := by decide +kernel
theorem dX2_spend_18 : decode cX2_spend 18 = .ok (.ireturn, 1) := by decide +kernel
theorem dX2_spend_19 : decode cX2_spend 19 = .ok (.aload_n 0, 1) := by decide +kernel
theorem dX2_spend_20 : decode cX2_spend 20 = .ok (.getfield 51, 3) := by decide +kernel
theorem dX2_spend_23 : decode cX2_spend 23 = .ok (.ifCond .le 13, 3) := by decide +kernel
theorem dX2_spend_26 : decode cX2_spend 26 = .ok (.aload_n 0, 1) := by decide +kernel
theorem dX2_spend_27 : decode cX2_spend 27 = .ok (.dup, 1) := by decide +kernel
theorem dX2_spend_28 : decode cX2_spend 28 = .ok (.getfield 51, 3) := by decide +kernel
theorem dX2_spend_31 : decode cX2_spend 31 = .ok (.iconst 1, 1) := by decide +kernel
theorem dX2_spend_32 : decode cX2_spend 32 = .ok (.isub, 1) := by decide +kernel
theorem dX2_spend_33 : decode cX2_spend 33 = .ok (.putfield 51, 3) := by decide +kernel
theorem dX2_spend_36 : decode cX2_spend 36 = .ok (.iconst 1, 1) := by decide +kernel
theorem dX2_spend_37 : decode cX2_spend 37 = .ok (.ireturn, 1) := by decide +kernel
theorem dX2_writeEntry_0 : decode cX2_writeEntry 0 = .ok (.iload_n 1, 1) := by decide +kernel
theorem dX2_writeEntry_1 : decode cX2_writeEntry 1 = .ok (.ifCond .lt 31, 3) := by decide +kernel
theorem dX2_writeEntry_4 : decode cX2_writeEntry 4 = .ok (.iload_n 1, 1) := by decide +kernel
theorem dX2_writeEntry_5 : decode cX2_writeEntry 5 = .ok (.aload_n 0, 1) := by decide +kernel
theorem dX2_writeEntry_6 : decode cX2_writeEntry 6 = .ok (.getfield 36, 3) := by decide +kernel
theorem dX2_writeEntry_9 : decode cX2_writeEntry 9 = .ok (.if_icmp .ge 23, 3) := by decide +kernel
theorem dX2_writeEntry_12 : decode cX2_writeEntry 12 = .ok (.iload_n 3, 1) := by decide +kernel
theorem dX2_writeEntry_13 : decode cX2_writeEntry 13 = .ok (.ifCond .lt 19, 3) := by decide +kernel
theorem dX2_writeEntry_16 : decode cX2_writeEntry 16 = .ok (.iload_n 3, 1) := by decide +kernel
theorem dX2_writeEntry_17 : decode cX2_writeEntry 17 = .ok (.aload_n 2, 1) := by decide +kernel
theorem dX2_writeEntry_18 : decode cX2_writeEntry 18 = .ok (.arraylength, 1) := by decide +kernel
theorem dX2_writeEntry_19 : decode cX2_writeEntry 19 = .ok (.bipush 8, 2) := by decide +kernel
theorem dX2_writeEntry_21 : decode cX2_writeEntry 21 = .ok (.isub, 1) := by decide +kernel
theorem dX2_writeEntry_22 : decode cX2_writeEntry 22 = .ok (.if_icmp .gt 10, 3) := by decide +kernel
theorem dX2_writeEntry_25 : decode cX2_writeEntry 25 = .ok (.aload_n 0, 1) := by decide +kernel
theorem dX2_writeEntry_26 : decode cX2_writeEntry 26 = .ok (.invokevirtual 68, 3) := by decide +kernel
theorem dX2_writeEntry_29 : decode cX2_writeEntry 29 = .ok (.ifCond .ne 5, 3) := by decide +kernel
theorem dX2_writeEntry_32 : decode cX2_writeEntry 32 = .ok (.iconst 0, 1) := by decide +kernel
theorem dX2_writeEntry_33 : decode cX2_writeEntry 33 = .ok (.ireturn, 1) := by decide +kernel
theorem dX2_writeEntry_34 : decode cX2_writeEntry 34 = .ok (.aload_n 2, 1) := by decide +kernel
theorem dX2_writeEntry_35 : decode cX2_writeEntry 35 = .ok (.iload_n 3, 1) := by decide +kernel
theorem dX2_writeEntry_36 : decode cX2_writeEntry 36 = .ok (.aload_n 0, 1) := by decide +kernel
theorem dX2_writeEntry_37 : decode cX2_writeEntry 37 = .ok (.getfield 39, 3) := by decide +kernel
theorem dX2_writeEntry_40 : decode cX2_writeEntry 40 = .ok (.aload_n 0, 1) := by decide +kernel
theorem dX2_writeEntry_41 : decode cX2_writeEntry 41 = .ok (.getfield 33, 3) := by decide +kernel
theorem dX2_writeEntry_44 : decode cX2_writeEntry 44 = .ok (.aload_n 0, 1) := by decide +kernel
theorem dX2_writeEntry_45 : decode cX2_writeEntry 45 = .ok (.getfield 30, 3) := by decide +kernel
theorem dX2_writeEntry_48 : decode cX2_writeEntry 48 = .ok (.iadd, 1) := by decide +kernel
theorem dX2_writeEntry_49 : decode cX2_writeEntry 49 = .ok (.iload_n 1, 1) := by decide +kernel
theorem dX2_writeEntry_50 : decode cX2_writeEntry 50 = .ok (.iadd, 1) := by decide +kernel
theorem dX2_writeEntry_51 : decode cX2_writeEntry 51 = .ok (.bipush 8, 2) := by decide +kernel
theorem dX2_writeEntry_53 : decode cX2_writeEntry 53 = .ok (.imul, 1) := by decide +kernel
theorem dX2_writeEntry_54 : decode cX2_writeEntry 54 = .ok (.bipush 8, 2) := by decide +kernel
theorem dX2_writeEntry_56 : decode cX2_writeEntry 56 = .ok (.invokestatic 72, 3) := by decide +kernel
theorem dX2_writeEntry_59 : decode cX2_writeEntry 59 = .ok (.aload_n 0, 1) := by decide +kernel
theorem dX2_writeEntry_60 : decode cX2_writeEntry 60 = .ok (.dup, 1) := by decide +kernel
theorem dX2_writeEntry_61 : decode cX2_writeEntry 61 = .ok (.getfield 56, 3) := by decide +kernel
theorem dX2_writeEntry_64 : decode cX2_writeEntry 64 = .ok (.iconst 1, 1) := by decide +kernel
theorem dX2_writeEntry_65 : decode cX2_writeEntry 65 = .ok (.iadd, 1) := by decide +kernel
theorem dX2_writeEntry_66 : decode cX2_writeEntry 66 = .ok (.putfield 56, 3) := by decide +kernel
theorem dX2_writeEntry_69 : decode cX2_writeEntry 69 = .ok (.iconst 1, 1) := by decide +kernel
theorem dX2_writeEntry_70 : decode cX2_writeEntry 70 = .ok (.ireturn, 1) := by decide +kernel
theorem dX8_isLive_0 : decode cX8_isLive 0 = .ok (.iload_n 1, 1) := by decide +kernel
theorem dX8_isLive_1 : decode cX8_isLive 1 = .ok (.aload_n 0, 1) := by decide +kernel
theorem dX8_isLive_2 : decode cX8_isLive 2 = .ok (.getfield 9, 3) := by decide +kernel
theorem dX8_isLive_5 : decode cX8_isLive 5 = .ok (.getfield 28, 3) := by decide +kernel
theorem dX8_isLive_8 : decode cX8_isLive 8 = .ok (.irem, 1) := by decide +kernel
theorem dX8_isLive_9 : decode cX8_isLive 9 = .ok (.istore_n 2, 1) := by decide +kernel
theorem dX8_isLive_10 : decode cX8_isLive 10 = .ok (.iload_n 2, 1) := by decide +kernel
theorem dX8_isLive_11 : decode cX8_isLive 11 = .ok (.ifCond .lt 21, 3) := by decide +kernel
theorem dX8_isLive_14 : decode cX8_isLive 14 = .ok (.iload_n 2, 1) := by decide +kernel
theorem dX8_isLive_15 : decode cX8_isLive 15 = .ok (.aload_n 0, 1) := by decide +kernel
theorem dX8_isLive_16 : decode cX8_isLive 16 = .ok (.getfield 31, 3) := by decide +kernel
theorem dX8_isLive_19 : decode cX8_isLive 19 = .ok (.arraylength, 1) := by decide +kernel
theorem dX8_isLive_20 : decode cX8_isLive 20 = .ok (.if_icmp .ge 12, 3) := by decide +kernel
theorem dX8_isLive_23 : decode cX8_isLive 23 = .ok (.aload_n 0, 1) := by decide +kernel
theorem dX8_isLive_24 : decode cX8_isLive 24 = .ok (.getfield 31, 3) := by decide +kernel
theorem dX8_isLive_27 : decode cX8_isLive 27 = .ok (.iload_n 2, 1) := by decide +kernel
theorem dX8_isLive_28 : decode cX8_isLive 28 = .ok (.iaload, 1) := by decide +kernel
theorem dX8_isLive_29 : decode cX8_isLive 29 = .ok (.goto 4, 3) := by decide +kernel
theorem dX8_isLive_32 : decode cX8_isLive 32 = .ok (.iconst (-1), 1) := by decide +kernel
theorem dX8_isLive_33 : decode cX8_isLive 33 = .ok (.istore_n 3, 1) := by decide +kernel
theorem dX8_isLive_34 : decode cX8_isLive 34 = .ok (.iload_n 3, 1) := by decide +kernel
theorem dX8_isLive_35 : decode cX8_isLive 35 = .ok (.aload_n 0, 1) := by decide +kernel
theorem dX8_isLive_36 : decode cX8_isLive 36 = .ok (.getfield 9, 3) := by decide +kernel
theorem dX8_isLive_39 : decode cX8_isLive 39 = .ok (.getfield 71, 3) := by decide +kernel
theorem dX8_isLive_42 : decode cX8_isLive 42 = .ok (.idiv, 1) := by decide +kernel
theorem dX8_isLive_43 : decode cX8_isLive 43 = .ok (.istore 4, 2) := by decide +kernel
theorem dX8_isLive_45 : decode cX8_isLive 45 = .ok (.iload_n 3, 1) := by decide +kernel
theorem dX8_isLive_46 : decode cX8_isLive 46 = .ok (.ifCond .lt 47, 3) := by decide +kernel
theorem dX8_isLive_49 : decode cX8_isLive 49 = .ok (.iload_n 3, 1) := by decide +kernel
theorem dX8_isLive_50 : decode cX8_isLive 50 = .ok (.aload_n 0, 1) := by decide +kernel
theorem dX8_isLive_51 : decode cX8_isLive 51 = .ok (.getfield 37, 3) := by decide +kernel
theorem dX8_isLive_54 : decode cX8_isLive 54 = .ok (.arraylength, 1) := by decide +kernel
theorem dX8_isLive_55 : decode cX8_isLive 55 = .ok (.if_icmp .ge 38, 3) := by decide +kernel
theorem dX8_isLive_58 : decode cX8_isLive 58 = .ok (.iload 4, 2) := by decide +kernel
theorem dX8_isLive_60 : decode cX8_isLive 60 = .ok (.aload_n 0, 1) := by decide +kernel
theorem dX8_isLive_61 : decode cX8_isLive 61 = .ok (.getfield 21, 3) := by decide +kernel
theorem dX8_isLive_64 : decode cX8_isLive 64 = .ok (.arraylength, 1) := by decide +kernel
theorem dX8_isLive_65 : decode cX8_isLive 65 = .ok (.if_icmp .ge 28, 3) := by decide +kernel
theorem dX8_isLive_68 : decode cX8_isLive 68 = .ok (.aload_n 0, 1) := by decide +kernel
theorem dX8_isLive_69 : decode cX8_isLive 69 = .ok (.getfield 37, 3) := by decide +kernel
theorem dX8_isLive_72 : decode cX8_isLive 72 = .ok (.iload_n 3, 1) := by decide +kernel
theorem dX8_isLive_73 : decode cX8_isLive 73 = .ok (.iaload, 1) := by decide +kernel
theorem dX8_isLive_74 : decode cX8_isLive 74 = .ok (.iload_n 1, 1) := by decide +kernel
theorem dX8_isLive_75 : decode cX8_isLive 75 = .ok (.if_icmp .ne 18, 3) := by decide +kernel
theorem dX8_isLive_78 : decode cX8_isLive 78 = .ok (.iload_n 1, 1) := by decide +kernel
theorem dX8_isLive_79 : decode cX8_isLive 79 = .ok (.aload_n 0, 1) := by decide +kernel
theorem dX8_isLive_80 : decode cX8_isLive 80 = .ok (.getfield 21, 3) := by decide +kernel
theorem dX8_isLive_83 : decode cX8_isLive 83 = .ok (.iload 4, 2) := by decide +kernel
theorem dX8_isLive_85 : decode cX8_isLive 85 = .ok (.iaload, 1) := by decide +kernel
theorem dX8_isLive_86 : decode cX8_isLive 86 = .ok (.if_icmp .lt 7, 3) := by decide +kernel
theorem dX8_isLive_89 : decode cX8_isLive 89 = .ok (.iconst 1, 1) := by decide +kernel
theorem dX8_isLive_90 : decode cX8_isLive 90 = .ok (.goto 4, 3) := by decide +kernel
theorem dX8_isLive_93 : decode cX8_isLive 93 = .ok (.iconst 0, 1) := by decide +kernel
theorem dX8_isLive_94 : decode cX8_isLive 94 = .ok (.ireturn, 1) := by decide +kernel
theorem dX8_oldest_0 : decode cX8_oldest 0 = .ok (.aload_n 0, 1) := by decide +kernel
theorem dX8_oldest_1 : decode cX8_oldest 1 = .ok (.getfield 68, 3) := by decide +kernel
theorem dX8_oldest_4 : decode cX8_oldest 4 = .ok (.istore_n 1, 1) := by decide +kernel
theorem dX8_oldest_5 : decode cX8_oldest 5 = .ok (.iload_n 1, 1) := by decide +kernel
theorem dX8_oldest_6 : decode cX8_oldest 6 = .ok (.aload_n 0, 1) := by decide +kernel
theorem dX8_oldest_7 : decode cX8_oldest 7 = .ok (.getfield 65, 3) := by decide +kernel
theorem dX8_oldest_10 : decode cX8_oldest 10 = .ok (.if_icmp .ge 19, 3) := by decide +kernel
theorem dX8_oldest_13 : decode cX8_oldest 13 = .ok (.aload_n 0, 1) := by decide +kernel
theorem dX8_oldest_14 : decode cX8_oldest 14 = .ok (.iload_n 1, 1) := by decide +kernel
theorem dX8_oldest_15 : decode cX8_oldest 15 = .ok (.invokevirtual 74, 3) := by decide +kernel
theorem dX8_oldest_18 : decode cX8_oldest 18 = .ok (.ifCond .eq 5, 3) := by decide +kernel
theorem dX8_oldest_21 : decode cX8_oldest 21 = .ok (.iload_n 1, 1) := by decide +kernel
theorem dX8_oldest_22 : decode cX8_oldest 22 = .ok (.ireturn, 1) := by decide +kernel
theorem dX8_oldest_23 : decode cX8_oldest 23 = .ok (.iinc 1 1, 3) := by decide +kernel
theorem dX8_oldest_26 : decode cX8_oldest 26 = .ok (.goto (-21), 3) := by decide +kernel
theorem dX8_oldest_29 : decode cX8_oldest 29 = .ok (.aload_n 0, 1) := by decide +kernel
theorem dX8_oldest_30 : decode cX8_oldest 30 = .ok (.getfield 65, 3) := by decide +kernel
theorem dX8_oldest_33 : decode cX8_oldest 33 = .ok (.ireturn, 1) := by decide +kernel
theorem dX8_nextKind_0 : decode cX8_nextKind 0 = .ok (.aload_n 0, 1) := by decide +kernel
theorem dX8_nextKind_1 : decode cX8_nextKind 1 = .ok (.getfield 59, 3) := by decide +kernel
theorem dX8_nextKind_4 : decode cX8_nextKind 4 = .ok (.iconst (-1), 1) := by decide +kernel
theorem dX8_nextKind_5 : decode cX8_nextKind 5 = .ok (.if_icmp .ne 42, 3) := by decide +kernel
theorem dX8_nextKind_8 : decode cX8_nextKind 8 = .ok (.aload_n 0, 1) := by decide +kernel
theorem dX8_nextKind_9 : decode cX8_nextKind 9 = .ok (.invokevirtual 100, 3) := by decide +kernel
theorem dX8_nextKind_12 : decode cX8_nextKind 12 = .ok (.istore_n 1, 1) := by decide +kernel
theorem dX8_nextKind_13 : decode cX8_nextKind 13 = .ok (.iload_n 1, 1) := by decide +kernel
theorem dX8_nextKind_14 : decode cX8_nextKind 14 = .ok (.aload_n 0, 1) := by decide +kernel
theorem dX8_nextKind_15 : decode cX8_nextKind 15 = .ok (.getfield 68, 3) := by decide +kernel
theorem dX8_nextKind_18 : decode cX8_nextKind 18 = .ok (.isub, 1) := by decide +kernel
theorem dX8_nextKind_19 : decode cX8_nextKind 19 = .ok (.aload_n 0, 1) := by decide +kernel
theorem dX8_nextKind_20 : decode cX8_nextKind 20 = .ok (.getfield 9, 3) := by decide +kernel
theorem dX8_nextKind_23 : decode cX8_nextKind 23 = .ok (.getfield 28, 3) := by decide +kernel
theorem dX8_nextKind_26 : decode cX8_nextKind 26 = .ok (.iconst 4, 1) := by decide +kernel
theorem dX8_nextKind_27 : decode cX8_nextKind 27 = .ok (.idiv, 1) := by decide +kernel
theorem dX8_nextKind_28 : decode cX8_nextKind 28 = .ok (.if_icmp .lt 5, 3) := by decide +kernel
theorem dX8_nextKind_31 : decode cX8_nextKind 31 = .ok (.iconst 1, 1) := by decide +kernel
theorem dX8_nextKind_32 : decode cX8_nextKind 32 = .ok (.ireturn, 1) := by decide +kernel
theorem dX8_nextKind_33 : decode cX8_nextKind 33 = .ok (.iload_n 1, 1) := by decide +kernel
theorem dX8_nextKind_34 : decode cX8_nextKind 34 = .ok (.aload_n 0, 1) := by decide +kernel
theorem dX8_nextKind_35 : decode cX8_nextKind 35 = .ok (.getfield 65, 3) := by decide +kernel
theorem dX8_nextKind_38 : decode cX8_nextKind 38 = .ok (.if_icmp .ne 7, 3) := by decide +kernel
theorem dX8_nextKind_41 : decode cX8_nextKind 41 = .ok (.iconst 0, 1) := by decide +kernel
theorem dX8_nextKind_42 : decode cX8_nextKind 42 = .ok (.goto 4, 3) := by decide +kernel
theorem dX8_nextKind_45 : decode cX8_nextKind 45 = .ok (.iconst 2, 1) := by decide +kernel
theorem dX8_nextKind_46 : decode cX8_nextKind 46 = .ok (.ireturn, 1) := by decide +kernel
theorem dX8_nextKind_47 : decode cX8_nextKind 47 = .ok (.aload_n 0, 1) := by decide +kernel
theorem dX8_nextKind_48 : decode cX8_nextKind 48 = .ok (.getfield 103, 3) := by decide +kernel
theorem dX8_nextKind_51 : decode cX8_nextKind 51 = .ok (.aload_n 0, 1) := by decide +kernel
theorem dX8_nextKind_52 : decode cX8_nextKind 52 = .ok (.getfield 9, 3) := by decide +kernel
theorem dX8_nextKind_55 : decode cX8_nextKind 55 = .ok (.getfield 106, 3) := by decide +kernel
theorem dX8_nextKind_58 : decode cX8_nextKind 58 = .ok (.if_icmp .ge 16, 3) := by decide +kernel
theorem dX8_nextKind_61 : decode cX8_nextKind 61 = .ok (.aload_n 0, 1) := by decide +kernel
theorem dX8_nextKind_62 : decode cX8_nextKind 62 = .ok (.getfield 82, 3) := by decide +kernel
theorem dX8_nextKind_65 : decode cX8_nextKind 65 = .ok (.ifCond .eq 7, 3) := by decide +kernel
theorem dX8_nextKind_68 : decode cX8_nextKind 68 = .ok (.iconst 5, 1) := by decide +kernel
theorem dX8_nextKind_69 : decode cX8_nextKind 69 = .ok (.goto 4, 3) := by decide +kernel
theorem dX8_nextKind_72 : decode cX8_nextKind 72 = .ok (.iconst 3, 1) := by decide +kernel
theorem dX8_nextKind_73 : decode cX8_nextKind 73 = .ok (.ireturn, 1) := by decide +kernel
theorem dX8_nextKind_74 : decode cX8_nextKind 74 = .ok (.aload_n 0, 1) := by decide +kernel
theorem dX8_nextKind_75 : decode cX8_nextKind 75 = .ok (.getfield 82, 3) := by decide +kernel
theorem dX8_nextKind_78 : decode cX8_nextKind 78 = .ok (.ifCond .eq 8, 3) := by decide +kernel
theorem dX8_nextKind_81 : decode cX8_nextKind 81 = .ok (.bipush 6, 2) := by decide +kernel
theorem dX8_nextKind_83 : decode cX8_nextKind 83 = .ok (.goto 4, 3) := by decide +kernel
theorem dX8_nextKind_86 : decode cX8_nextKind 86 = .ok (.iconst 4, 1) := by decide +kernel
theorem dX8_nextKind_87 : decode cX8_nextKind 87 = .ok (.ireturn, 1) := by decide +kernel
theorem dX2_writeRecord_0 : decode cX2_writeRecord 0 = .ok (.aload_n 0, 1) := by decide +kernel
theorem dX2_writeRecord_1 : decode cX2_writeRecord 1 = .ok (.invokevirtual 68, 3) := by decide +kernel
theorem dX2_writeRecord_4 : decode cX2_writeRecord 4 = .ok (.istore_n 1, 1) := by decide +kernel
theorem dX2_writeRecord_5 : decode cX2_writeRecord 5 = .ok (.iload_n 1, 1) := by decide +kernel
theorem dX2_writeRecord_6 : decode cX2_writeRecord 6 = .ok (.ifCond .eq 13, 3) := by decide +kernel
theorem dX2_writeRecord_9 : decode cX2_writeRecord 9 = .ok (.aload_n 0, 1) := by decide +kernel
theorem dX2_writeRecord_10 : decode cX2_writeRecord 10 = .ok (.dup, 1) := by decide +kernel
theorem dX2_writeRecord_11 : decode cX2_writeRecord 11 = .ok (.getfield 65, 3) := by decide +kernel
theorem dX2_writeRecord_14 : decode cX2_writeRecord 14 = .ok (.iconst 1, 1) := by decide +kernel
theorem dX2_writeRecord_15 : decode cX2_writeRecord 15 = .ok (.iadd, 1) := by decide +kernel
theorem dX2_writeRecord_16 : decode cX2_writeRecord 16 = .ok (.putfield 65, 3) := by decide +kernel
theorem dX2_writeRecord_19 : decode cX2_writeRecord 19 = .ok (.iload_n 1, 1) := by decide +kernel
theorem dX2_writeRecord_20 : decode cX2_writeRecord 20 = .ok (.ireturn, 1) := by decide +kernel
theorem dX8_trim_0 : decode cX8_trim 0 = .ok (.aload_n 0, 1) := by decide +kernel
theorem dX8_trim_1 : decode cX8_trim 1 = .ok (.getfield 9, 3) := by decide +kernel
theorem dX8_trim_4 : decode cX8_trim 4 = .ok (.invokevirtual 131, 3) := by decide +kernel
theorem dX8_trim_7 : decode cX8_trim 7 = .ok (.ifCond .ne 5, 3) := by decide +kernel
theorem dX8_trim_10 : decode cX8_trim 10 = .ok (.iconst 0, 1) := by decide +kernel
theorem dX8_trim_11 : decode cX8_trim 11 = .ok (.ireturn, 1) := by decide +kernel
theorem dX8_trim_12 : decode cX8_trim 12 = .ok (.aload_n 0, 1) := by decide +kernel
theorem dX8_trim_13 : decode cX8_trim 13 = .ok (.aload_n 0, 1) := by decide +kernel
theorem dX8_trim_14 : decode cX8_trim 14 = .ok (.invokevirtual 100, 3) := by decide +kernel
theorem dX8_trim_17 : decode cX8_trim 17 = .ok (.putfield 68, 3) := by decide +kernel
theorem dX8_trim_20 : decode cX8_trim 20 = .ok (.iconst 1, 1) := by decide +kernel
theorem dX8_trim_21 : decode cX8_trim 21 = .ok (.ireturn, 1) := by decide +kernel
theorem dJ7_fill_53178_0 : decode cJ7_fill_53178 0 = .ok (.iconst 0, 1) := by decide +kernel
theorem dJ7_fill_53178_1 : decode cJ7_fill_53178 1 = .ok (.istore_n 2, 1) := by decide +kernel
theorem dJ7_fill_53178_2 : decode cJ7_fill_53178 2 = .ok (.aload_n 0, 1) := by decide +kernel
theorem dJ7_fill_53178_3 : decode cJ7_fill_53178 3 = .ok (.arraylength, 1) := by decide +kernel
theorem dJ7_fill_53178_4 : decode cJ7_fill_53178 4 = .ok (.istore_n 3, 1) := by decide +kernel
theorem dJ7_fill_53178_5 : decode cJ7_fill_53178 5 = .ok (.iload_n 2, 1) := by decide +kernel
theorem dJ7_fill_53178_6 : decode cJ7_fill_53178 6 = .ok (.iload_n 3, 1) := by decide +kernel
theorem dJ7_fill_53178_7 : decode cJ7_fill_53178 7 = .ok (.if_icmp .ge 13, 3) := by decide +kernel
theorem dJ7_fill_53178_10 : decode cJ7_fill_53178 10 = .ok (.aload_n 0, 1) := by decide +kernel
theorem dJ7_fill_53178_11 : decode cJ7_fill_53178 11 = .ok (.iload_n 2, 1) := by decide +kernel
theorem dJ7_fill_53178_12 : decode cJ7_fill_53178 12 = .ok (.iload_n 1, 1) := by decide +kernel
theorem dJ7_fill_53178_13 : decode cJ7_fill_53178 13 = .ok (.iastore, 1) := by decide +kernel
theorem dJ7_fill_53178_14 : decode cJ7_fill_53178 14 = .ok (.iinc 2 1, 3) := by decide +kernel
theorem dJ7_fill_53178_17 : decode cJ7_fill_53178 17 = .ok (.goto (-12), 3) := by decide +kernel
theorem dJ7_fill_53178_20 : decode cJ7_fill_53178 20 = .ok (.return_, 1) := by decide +kernel
theorem dX8_pick_0 : decode cX8_pick 0 = .ok (.aload_n 0, 1) := by decide +kernel
theorem dX8_pick_1 : decode cX8_pick 1 = .ok (.getfield 9, 3) := by decide +kernel
theorem dX8_pick_4 : decode cX8_pick 4 = .ok (.invokevirtual 131, 3) := by decide +kernel
theorem dX8_pick_7 : decode cX8_pick 7 = .ok (.ifCond .ne 5, 3) := by decide +kernel
theorem dX8_pick_10 : decode cX8_pick 10 = .ok (.iconst 0, 1) := by decide +kernel
theorem dX8_pick_11 : decode cX8_pick 11 = .ok (.ireturn, 1) := by decide +kernel
theorem dX8_pick_12 : decode cX8_pick 12 = .ok (.aload_n 0, 1) := by decide +kernel
theorem dX8_pick_13 : decode cX8_pick 13 = .ok (.getfield 25, 3) := by decide +kernel
theorem dX8_pick_16 : decode cX8_pick 16 = .ok (.iconst 0, 1) := by decide +kernel
theorem dX8_pick_17 : decode cX8_pick 17 = .ok (.invokestatic 53, 3) := by decide +kernel
theorem dX8_pick_20 : decode cX8_pick 20 = .ok (.aload_n 0, 1) := by decide +kernel
theorem dX8_pick_21 : decode cX8_pick 21 = .ok (.getfield 68, 3) := by decide +kernel
theorem dX8_pick_24 : decode cX8_pick 24 = .ok (.istore_n 1, 1) := by decide +kernel
theorem dX8_pick_25 : decode cX8_pick 25 = .ok (.iload_n 1, 1) := by decide +kernel
theorem dX8_pick_26 : decode cX8_pick 26 = .ok (.aload_n 0, 1) := by decide +kernel
theorem dX8_pick_27 : decode cX8_pick 27 = .ok (.getfield 65, 3) := by decide +kernel
theorem dX8_pick_30 : decode cX8_pick 30 = .ok (.if_icmp .ge 82, 3) := by decide +kernel
theorem dX8_pick_33 : decode cX8_pick 33 = .ok (.iload_n 1, 1) := by decide +kernel
theorem dX8_pick_34 : decode cX8_pick 34 = .ok (.aload_n 0, 1) := by decide +kernel
theorem dX8_pick_35 : decode cX8_pick 35 = .ok (.getfield 9, 3) := by decide +kernel
theorem dX8_pick_38 : decode cX8_pick 38 = .ok (.getfield 28, 3) := by decide +kernel
theorem dX8_pick_41 : decode cX8_pick 41 = .ok (.irem, 1) := by decide +kernel
theorem dX8_pick_42 : decode cX8_pick 42 = .ok (.istore_n 2, 1) := by decide +kernel
theorem dX8_pick_43 : decode cX8_pick 43 = .ok (.iload_n 2, 1) := by decide +kernel
theorem dX8_pick_44 : decode cX8_pick 44 = .ok (.ifCond .lt 29, 3) := by decide +kernel
theorem dX8_pick_47 : decode cX8_pick 47 = .ok (.iload_n 2, 1) := by decide +kernel
theorem dX8_pick_48 : decode cX8_pick 48 = .ok (.aload_n 0, 1) := by decide +kernel
theorem dX8_pick_49 : decode cX8_pick 49 = .ok (.getfield 31, 3) := by decide +kernel
theorem dX8_pick_52 : decode cX8_pick 52 = .ok (.arraylength, 1) := by decide +kernel
theorem dX8_pick_53 : decode cX8_pick 53 = .ok (.if_icmp .ge 20, 3) := by decide +kernel
theorem dX8_pick_56 : decode cX8_pick 56 = .ok (.aload_n 0, 1) := by decide +kernel
theorem dX8_pick_57 : decode cX8_pick 57 = .ok (.getfield 31, 3) := by decide +kernel
theorem dX8_pick_60 : decode cX8_pick 60 = .ok (.iload_n 2, 1) := by decide +kernel
theorem dX8_pick_61 : decode cX8_pick 61 = .ok (.iaload, 1) := by decide +kernel
theorem dX8_pick_62 : decode cX8_pick 62 = .ok (.aload_n 0, 1) := by decide +kernel
theorem dX8_pick_63 : decode cX8_pick 63 = .ok (.getfield 9, 3) := by decide +kernel
theorem dX8_pick_66 : decode cX8_pick 66 = .ok (.getfield 71, 3) := by decide +kernel
theorem dX8_pick_69 : decode cX8_pick 69 = .ok (.idiv, 1) := by decide +kernel
theorem dX8_pick_70 : decode cX8_pick 70 = .ok (.goto 4, 3) := by decide +kernel
theorem dX8_pick_73 : decode cX8_pick 73 = .ok (.iconst (-1), 1) := by decide +kernel
theorem dX8_pick_74 : decode cX8_pick 74 = .ok (.istore_n 3, 1) := by decide +kernel
theorem dX8_pick_75 : decode cX8_pick 75 = .ok (.iload_n 3, 1) := by decide +kernel
theorem dX8_pick_76 : decode cX8_pick 76 = .ok (.ifCond .lt 30, 3) := by decide +kernel
theorem dX8_pick_79 : decode cX8_pick 79 = .ok (.iload_n 3, 1) := by decide +kernel
theorem dX8_pick_80 : decode cX8_pick 80 = .ok (.aload_n 0, 1) := by decide +kernel
theorem dX8_pick_81 : decode cX8_pick 81 = .ok (.getfield 25, 3) := by decide +kernel
theorem dX8_pick_84 : decode cX8_pick 84 = .ok (.arraylength, 1) := by decide +kernel
theorem dX8_pick_85 : decode cX8_pick 85 = .ok (.if_icmp .ge 21, 3) := by decide +kernel
theorem dX8_pick_88 : decode cX8_pick 88 = .ok (.aload_n 0, 1) := by decide +kernel
theorem dX8_pick_89 : decode cX8_pick 89 = .ok (.iload_n 1, 1) := by decide +kernel
theorem dX8_pick_90 : decode cX8_pick 90 = .ok (.invokevirtual 74, 3) := by decide +kernel
theorem dX8_pick_93 : decode cX8_pick 93 = .ok (.ifCond .eq 13, 3) := by decide +kernel
theorem dX8_pick_96 : decode cX8_pick 96 = .ok (.aload_n 0, 1) := by decide +kernel
theorem dX8_pick_97 : decode cX8_pick 97 = .ok (.getfield 25, 3) := by decide +kernel
theorem dX8_pick_100 : decode cX8_pick 100 = .ok (.iload_n 3, 1) := by decide +kernel
theorem dX8_pick_101 : decode cX8_pick 101 = .ok (.dup2, 1) := by decide +kernel
theorem dX8_pick_102 : decode cX8_pick 102 = .ok (.iaload, 1) := by decide +kernel
theorem dX8_pick_103 : decode cX8_pick 103 = .ok (.iconst 1, 1) := by decide +kernel
theorem dX8_pick_104 : decode cX8_pick 104 = .ok (.iadd, 1) := by decide +kernel
theorem dX8_pick_105 : decode cX8_pick 105 = .ok (.iastore, 1) := by decide +kernel
theorem dX8_pick_106 : decode cX8_pick 106 = .ok (.iinc 1 1, 3) := by decide +kernel
theorem dX8_pick_109 : decode cX8_pick 109 = .ok (.goto (-84), 3) := by decide +kernel
theorem dX8_pick_112 : decode cX8_pick 112 = .ok (.iconst 0, 1) := by decide +kernel
theorem dX8_pick_113 : decode cX8_pick 113 = .ok (.istore_n 1, 1) := by decide +kernel
theorem dX8_pick_114 : decode cX8_pick 114 = .ok (.iconst 1, 1) := by decide +kernel
theorem dX8_pick_115 : decode cX8_pick 115 = .ok (.istore_n 2, 1) := by decide +kernel
theorem dX8_pick_116 : decode cX8_pick 116 = .ok (.iload_n 2, 1) := by decide +kernel
theorem dX8_pick_117 : decode cX8_pick 117 = .ok (.aload_n 0, 1) := by decide +kernel
theorem dX8_pick_118 : decode cX8_pick 118 = .ok (.getfield 25, 3) := by decide +kernel
theorem dX8_pick_121 : decode cX8_pick 121 = .ok (.arraylength, 1) := by decide +kernel
theorem dX8_pick_122 : decode cX8_pick 122 = .ok (.if_icmp .ge 26, 3) := by decide +kernel
theorem dX8_pick_125 : decode cX8_pick 125 = .ok (.aload_n 0, 1) := by decide +kernel
theorem dX8_pick_126 : decode cX8_pick 126 = .ok (.getfield 25, 3) := by decide +kernel
theorem dX8_pick_129 : decode cX8_pick 129 = .ok (.iload_n 2, 1) := by decide +kernel
theorem dX8_pick_130 : decode cX8_pick 130 = .ok (.iaload, 1) := by decide +kernel
theorem dX8_pick_131 : decode cX8_pick 131 = .ok (.aload_n 0, 1) := by decide +kernel
theorem dX8_pick_132 : decode cX8_pick 132 = .ok (.getfield 25, 3) := by decide +kernel
theorem dX8_pick_135 : decode cX8_pick 135 = .ok (.iload_n 1, 1) := by decide +kernel
theorem dX8_pick_136 : decode cX8_pick 136 = .ok (.iaload, 1) := by decide +kernel
theorem dX8_pick_137 : decode cX8_pick 137 = .ok (.if_icmp .le 5, 3) := by decide +kernel
theorem dX8_pick_140 : decode cX8_pick 140 = .ok (.iload_n 2, 1) := by decide +kernel
theorem dX8_pick_141 : decode cX8_pick 141 = .ok (.istore_n 1, 1) := by decide +kernel
theorem dX8_pick_142 : decode cX8_pick 142 = .ok (.iinc 2 1, 3) := by decide +kernel
theorem dX8_pick_145 : decode cX8_pick 145 = .ok (.goto (-29), 3) := by decide +kernel
theorem dX8_pick_148 : decode cX8_pick 148 = .ok (.aload_n 0, 1) := by decide +kernel
theorem dX8_pick_149 : decode cX8_pick 149 = .ok (.iload_n 1, 1) := by decide +kernel
theorem dX8_pick_150 : decode cX8_pick 150 = .ok (.putfield 59, 3) := by decide +kernel
theorem dX8_pick_153 : decode cX8_pick 153 = .ok (.aload_n 0, 1) := by decide +kernel
theorem dX8_pick_154 : decode cX8_pick 154 = .ok (.aload_n 0, 1) := by decide +kernel
theorem dX8_pick_155 : decode cX8_pick 155 = .ok (.getfield 65, 3) := by decide +kernel
theorem dX8_pick_158 : decode cX8_pick 158 = .ok (.putfield 134, 3) := by decide +kernel
theorem dX8_pick_161 : decode cX8_pick 161 = .ok (.aload_n 0, 1) := by decide +kernel
theorem dX8_pick_162 : decode cX8_pick 162 = .ok (.iconst 0, 1) := by decide +kernel
theorem dX8_pick_163 : decode cX8_pick 163 = .ok (.putfield 103, 3) := by decide +kernel
theorem dX8_pick_166 : decode cX8_pick 166 = .ok (.iconst 1, 1) := by decide +kernel
theorem dX8_pick_167 : decode cX8_pick 167 = .ok (.ireturn, 1) := by decide +kernel
theorem dX8_spot_0 : decode cX8_spot 0 = .ok (.iload_n 1, 1) := by decide +kernel
theorem dX8_spot_1 : decode cX8_spot 1 = .ok (.ifCond .lt 12, 3) := by decide +kernel
theorem dX8_spot_4 : decode cX8_spot 4 = .ok (.iload_n 1, 1) := by decide +kernel
theorem dX8_spot_5 : decode cX8_spot 5 = .ok (.aload_n 0, 1) := by decide +kernel
theorem dX8_spot_6 : decode cX8_spot 6 = .ok (.getfield 37, 3) := by decide +kernel
theorem dX8_spot_9 : decode cX8_spot 9 = .ok (.arraylength, 1) := by decide +kernel
theorem dX8_spot_10 : decode cX8_spot 10 = .ok (.if_icmp .lt 5, 3) := by decide +kernel
theorem dX8_spot_13 : decode cX8_spot 13 = .ok (.iconst 0, 1) := by decide +kernel
theorem dX8_spot_14 : decode cX8_spot 14 = .ok (.ireturn, 1) := by decide +kernel
theorem dX8_spot_15 : decode cX8_spot 15 = .ok (.iload_n 1, 1) := by decide +kernel
theorem dX8_spot_16 : decode cX8_spot 16 = .ok (.aload_n 0, 1) := by decide +kernel
theorem dX8_spot_17 : decode cX8_spot 17 = .ok (.getfield 9, 3) := by decide +kernel
theorem dX8_spot_20 : decode cX8_spot 20 = .ok (.getfield 71, 3) := by decide +kernel
theorem dX8_spot_23 : decode cX8_spot 23 = .ok (.idiv, 1) := by decide +kernel
theorem dX8_spot_24 : decode cX8_spot 24 = .ok (.istore_n 2, 1) := by decide +kernel
theorem dX8_spot_25 : decode cX8_spot 25 = .ok (.aload_n 0, 1) := by decide +kernel
theorem dX8_spot_26 : decode cX8_spot 26 = .ok (.getfield 37, 3) := by decide +kernel
theorem dX8_spot_29 : decode cX8_spot 29 = .ok (.iload_n 1, 1) := by decide +kernel
theorem dX8_spot_30 : decode cX8_spot 30 = .ok (.iaload, 1) := by decide +kernel
theorem dX8_spot_31 : decode cX8_spot 31 = .ok (.istore_n 3, 1) := by decide +kernel
theorem dX8_spot_32 : decode cX8_spot 32 = .ok (.iload_n 3, 1) := by decide +kernel
theorem dX8_spot_33 : decode cX8_spot 33 = .ok (.aload_n 0, 1) := by decide +kernel
theorem dX8_spot_34 : decode cX8_spot 34 = .ok (.getfield 68, 3) := by decide +kernel
theorem dX8_spot_37 : decode cX8_spot 37 = .ok (.if_icmp .lt 44, 3) := by decide +kernel
theorem dX8_spot_40 : decode cX8_spot 40 = .ok (.iload_n 2, 1) := by decide +kernel
theorem dX8_spot_41 : decode cX8_spot 41 = .ok (.aload_n 0, 1) := by decide +kernel
theorem dX8_spot_42 : decode cX8_spot 42 = .ok (.getfield 21, 3) := by decide +kernel
theorem dX8_spot_45 : decode cX8_spot 45 = .ok (.arraylength, 1) := by decide +kernel
theorem dX8_spot_46 : decode cX8_spot 46 = .ok (.if_icmp .ge 35, 3) := by decide +kernel
theorem dX8_spot_49 : decode cX8_spot 49 = .ok (.iload_n 3, 1) := by decide +kernel
theorem dX8_spot_50 : decode cX8_spot 50 = .ok (.aload_n 0, 1) := by decide +kernel
theorem dX8_spot_51 : decode cX8_spot 51 = .ok (.getfield 21, 3) := by decide +kernel
theorem dX8_spot_54 : decode cX8_spot 54 = .ok (.iload_n 2, 1) := by decide +kernel
theorem dX8_spot_55 : decode cX8_spot 55 = .ok (.iaload, 1) := by decide +kernel
theorem dX8_spot_56 : decode cX8_spot 56 = .ok (.if_icmp .lt 25, 3) := by decide +kernel
theorem dX8_spot_59 : decode cX8_spot 59 = .ok (.aload_n 0, 1) := by decide +kernel
theorem dX8_spot_60 : decode cX8_spot 60 = .ok (.getfield 9, 3) := by decide +kernel
theorem dX8_spot_63 : decode cX8_spot 63 = .ok (.getfield 78, 3) := by decide +kernel
theorem dX8_spot_66 : decode cX8_spot 66 = .ok (.arraylength, 1) := by decide +kernel
theorem dX8_spot_67 : decode cX8_spot 67 = .ok (.iload_n 3, 1) := by decide +kernel
theorem dX8_spot_68 : decode cX8_spot 68 = .ok (.aload_n 0, 1) := by decide +kernel
theorem dX8_spot_69 : decode cX8_spot 69 = .ok (.getfield 9, 3) := by decide +kernel
theorem dX8_spot_72 : decode cX8_spot 72 = .ok (.getfield 28, 3) := by decide +kernel
theorem dX8_spot_75 : decode cX8_spot 75 = .ok (.irem, 1) := by decide +kernel
theorem dX8_spot_76 : decode cX8_spot 76 = .ok (.iadd, 1) := by decide +kernel
theorem dX8_spot_77 : decode cX8_spot 77 = .ok (.bipush 8, 2) := by decide +kernel
theorem dX8_spot_79 : decode cX8_spot 79 = .ok (.imul, 1) := by decide +kernel
theorem dX8_spot_80 : decode cX8_spot 80 = .ok (.ireturn, 1) := by decide +kernel
theorem dX8_spot_81 : decode cX8_spot 81 = .ok (.aload_n 0, 1) := by decide +kernel
theorem dX8_spot_82 : decode cX8_spot 82 = .ok (.getfield 82, 3) := by decide +kernel
theorem dX8_spot_85 : decode cX8_spot 85 = .ok (.ifCond .eq 31, 3) := by decide +kernel
theorem dX8_spot_88 : decode cX8_spot 88 = .ok (.iload_n 2, 1) := by decide +kernel
theorem dX8_spot_89 : decode cX8_spot 89 = .ok (.aload_n 0, 1) := by decide +kernel
theorem dX8_spot_90 : decode cX8_spot 90 = .ok (.getfield 59, 3) := by decide +kernel
theorem dX8_spot_93 : decode cX8_spot 93 = .ok (.if_icmp .ne 23, 3) := by decide +kernel
theorem dX8_spot_96 : decode cX8_spot 96 = .ok (.aload_n 0, 1) := by decide +kernel
theorem dX8_spot_97 : decode cX8_spot 97 = .ok (.getfield 9, 3) := by decide +kernel
theorem dX8_spot_100 : decode cX8_spot 100 = .ok (.getfield 34, 3) := by decide +kernel
theorem dX8_spot_103 : decode cX8_spot 103 = .ok (.iload_n 1, 1) := by decide +kernel
theorem dX8_spot_104 : decode cX8_spot 104 = .ok (.aload_n 0, 1) := by decide +kernel
theorem dX8_spot_105 : decode cX8_spot 105 = .ok (.getfield 9, 3) := by decide +kernel
theorem dX8_spot_108 : decode cX8_spot 108 = .ok (.getfield 71, 3) := by decide +kernel
theorem dX8_spot_111 : decode cX8_spot 111 = .ok (.irem, 1) := by decide +kernel
theorem dX8_spot_112 : decode cX8_spot 112 = .ok (.iadd, 1) := by decide +kernel
theorem dX8_spot_113 : decode cX8_spot 113 = .ok (.goto 4, 3) := by decide +kernel
theorem dX8_spot_116 : decode cX8_spot 116 = .ok (.iload_n 1, 1) := by decide +kernel
theorem dX8_spot_117 : decode cX8_spot 117 = .ok (.istore 4, 2) := by decide +kernel
theorem dX8_spot_119 : decode cX8_spot 119 = .ok (.iload 4, 2) := by decide +kernel
theorem dX8_spot_121 : decode cX8_spot 121 = .ok (.aload_n 0, 1) := by decide +kernel
theorem dX8_spot_122 : decode cX8_spot 122 = .ok (.getfield 9, 3) := by decide +kernel
theorem dX8_spot_125 : decode cX8_spot 125 = .ok (.getfield 78, 3) := by decide +kernel
theorem dX8_spot_128 : decode cX8_spot 128 = .ok (.arraylength, 1) := by decide +kernel
theorem dX8_spot_129 : decode cX8_spot 129 = .ok (.if_icmp .ge 29, 3) := by decide +kernel
theorem dX8_spot_132 : decode cX8_spot 132 = .ok (.aload_n 0, 1) := by decide +kernel
theorem dX8_spot_133 : decode cX8_spot 133 = .ok (.getfield 9, 3) := by decide +kernel
theorem dX8_spot_136 : decode cX8_spot 136 = .ok (.getfield 78, 3) := by decide +kernel
theorem dX8_spot_139 : decode cX8_spot 139 = .ok (.iload 4, 2) := by decide +kernel
theorem dX8_spot_141 : decode cX8_spot 141 = .ok (.baload, 1) := by decide +kernel
theorem dX8_spot_142 : decode cX8_spot 142 = .ok (.ifCond .eq 16, 3) := by decide +kernel
theorem dX8_spot_145 : decode cX8_spot 145 = .ok (.aload_n 0, 1) := by decide +kernel
theorem dX8_spot_146 : decode cX8_spot 146 = .ok (.getfield 9, 3) := by decide +kernel
theorem dX8_spot_149 : decode cX8_spot 149 = .ok (.dup, 1) := by decide +kernel
theorem dX8_spot_150 : decode cX8_spot 150 = .ok (.getfield 86, 3) := by decide +kernel
theorem dX8_spot_153 : decode cX8_spot 153 = .ok (.iconst 1, 1) := by decide +kernel
theorem dX8_spot_154 : decode cX8_spot 154 = .ok (.iadd, 1) := by decide +kernel
theorem dX8_spot_155 : decode cX8_spot 155 = .ok (.putfield 86, 3) := by decide +kernel
theorem dX8_spot_158 : decode cX8_spot 158 = .ok (.iload 4, 2) := by decide +kernel
theorem dX8_spot_160 : decode cX8_spot 160 = .ok (.bipush 8, 2) := by decide +kernel
theorem dX8_spot_162 : decode cX8_spot 162 = .ok (.imul, 1) := by decide +kernel
theorem dX8_spot_163 : decode cX8_spot 163 = .ok (.ireturn, 1) := by decide +kernel
theorem dX2_writeShingle_0 : decode cX2_writeShingle 0 = .ok (.iload_n 1, 1) := by decide +kernel
theorem dX2_writeShingle_1 : decode cX2_writeShingle 1 = .ok (.ifCond .lt 25, 3) := by decide +kernel
theorem dX2_writeShingle_4 : decode cX2_writeShingle 4 = .ok (.iload_n 1, 1) := by decide +kernel
theorem dX2_writeShingle_5 : decode cX2_writeShingle 5 = .ok (.aload_n 0, 1) := by decide +kernel
theorem dX2_writeShingle_6 : decode cX2_writeShingle 6 = .ok (.getfield 43, 3) := by decide +kernel
theorem dX2_writeShingle_9 : decode cX2_writeShingle 9 = .ok (.arraylength, 1) := by decide +kernel
theorem dX2_writeShingle_10 : decode cX2_writeShingle 10 = .ok (.if_icmp .ge 16, 3) := by decide +kernel
theorem dX2_writeShingle_13 : decode cX2_writeShingle 13 = .ok (.iload_n 3, 1) := by decide +kernel
theorem dX2_writeShingle_14 : decode cX2_writeShingle 14 = .ok (.ifCond .lt 12, 3) := by decide +kernel
theorem dX2_writeShingle_17 : decode cX2_writeShingle 17 = .ok (.iload_n 3, 1) := by decide +kernel
theorem dX2_writeShingle_18 : decode cX2_writeShingle 18 = .ok (.aload_n 2, 1) := by decide +kernel
theorem dX2_writeShingle_19 : decode cX2_writeShingle 19 = .ok (.arraylength, 1) := by decide +kernel
theorem dX2_writeShingle_20 : decode cX2_writeShingle 20 = .ok (.bipush 8, 2) := by decide +kernel
theorem dX2_writeShingle_22 : decode cX2_writeShingle 22 = .ok (.isub, 1) := by decide +kernel
theorem dX2_writeShingle_23 : decode cX2_writeShingle 23 = .ok (.if_icmp .le 5, 3) := by decide +kernel
theorem dX2_writeShingle_26 : decode cX2_writeShingle 26 = .ok (.iconst 0, 1) := by decide +kernel
theorem dX2_writeShingle_27 : decode cX2_writeShingle 27 = .ok (.ireturn, 1) := by decide +kernel
theorem dX2_writeShingle_28 : decode cX2_writeShingle 28 = .ok (.iload_n 1, 1) := by decide +kernel
theorem dX2_writeShingle_29 : decode cX2_writeShingle 29 = .ok (.iload_n 1, 1) := by decide +kernel
theorem dX2_writeShingle_30 : decode cX2_writeShingle 30 = .ok (.bipush 8, 2) := by decide +kernel
theorem dX2_writeShingle_32 : decode cX2_writeShingle 32 = .ok (.irem, 1) := by decide +kernel
theorem dX2_writeShingle_33 : decode cX2_writeShingle 33 = .ok (.isub, 1) := by decide +kernel
theorem dX2_writeShingle_34 : decode cX2_writeShingle 34 = .ok (.bipush 8, 2) := by decide +kernel
theorem dX2_writeShingle_36 : decode cX2_writeShingle 36 = .ok (.iadd, 1) := by decide +kernel
theorem dX2_writeShingle_37 : decode cX2_writeShingle 37 = .ok (.istore 4, 2) := by decide +kernel
theorem dX2_writeShingle_39 : decode cX2_writeShingle 39 = .ok (.iload_n 1, 1) := by decide +kernel
theorem dX2_writeShingle_40 : decode cX2_writeShingle 40 = .ok (.iload_n 1, 1) := by decide +kernel
theorem dX2_writeShingle_41 : decode cX2_writeShingle 41 = .ok (.aload_n 0, 1) := by decide +kernel
theorem dX2_writeShingle_42 : decode cX2_writeShingle 42 = .ok (.getfield 30, 3) := by decide +kernel
theorem dX2_writeShingle_45 : decode cX2_writeShingle 45 = .ok (.irem, 1) := by decide +kernel
theorem dX2_writeShingle_46 : decode cX2_writeShingle 46 = .ok (.isub, 1) := by decide +kernel
theorem dX2_writeShingle_47 : decode cX2_writeShingle 47 = .ok (.aload_n 0, 1) := by decide +kernel
theorem dX2_writeShingle_48 : decode cX2_writeShingle 48 = .ok (.getfield 30, 3) := by decide +kernel
theorem dX2_writeShingle_51 : decode cX2_writeShingle 51 = .ok (.iadd, 1) := by decide +kernel
theorem dX2_writeShingle_52 : decode cX2_writeShingle 52 = .ok (.istore 5, 2) := by decide +kernel
theorem dX2_writeShingle_54 : decode cX2_writeShingle 54 = .ok (.iload 5, 2) := by decide +kernel
theorem dX2_writeShingle_56 : decode cX2_writeShingle 56 = .ok (.iload 4, 2) := by decide +kernel
theorem dX2_writeShingle_58 : decode cX2_writeShingle 58 = .ok (.bipush 8, 2) := by decide +kernel
theorem dX2_writeShingle_60 : decode cX2_writeShingle 60 = .ok (.aload_n 0, 1) := by decide +kernel
theorem dX2_writeShingle_61 : decode cX2_writeShingle 61 = .ok (.getfield 27, 3) := by decide +kernel
theorem dX2_writeShingle_64 : decode cX2_writeShingle 64 = .ok (.imul, 1) := by decide +kernel
theorem dX2_writeShingle_65 : decode cX2_writeShingle 65 = .ok (.iadd, 1) := by decide +kernel
theorem dX2_writeShingle_66 : decode cX2_writeShingle 66 = .ok (.invokestatic 9, 3) := by decide +kernel
theorem dX2_writeShingle_69 : decode cX2_writeShingle 69 = .ok (.istore 6, 2) := by decide +kernel
theorem dX2_writeShingle_71 : decode cX2_writeShingle 71 = .ok (.iload 4, 2) := by decide +kernel
theorem dX2_writeShingle_73 : decode cX2_writeShingle 73 = .ok (.istore 7, 2) := by decide +kernel
theorem dX2_writeShingle_75 : decode cX2_writeShingle 75 = .ok (.iload 7, 2) := by decide +kernel
theorem dX2_writeShingle_77 : decode cX2_writeShingle 77 = .ok (.iload 6, 2) := by decide +kernel
theorem dX2_writeShingle_79 : decode cX2_writeShingle 79 = .ok (.if_icmp .ge 27, 3) := by decide +kernel
theorem dX2_writeShingle_82 : decode cX2_writeShingle 82 = .ok (.iload 7, 2) := by decide +kernel
theorem dX2_writeShingle_84 : decode cX2_writeShingle 84 = .ok (.aload_n 0, 1) := by decide +kernel
theorem dX2_writeShingle_85 : decode cX2_writeShingle 85 = .ok (.getfield 43, 3) := by decide +kernel
theorem dX2_writeShingle_88 : decode cX2_writeShingle 88 = .ok (.arraylength, 1) := by decide +kernel
theorem dX2_writeShingle_89 : decode cX2_writeShingle 89 = .ok (.if_icmp .ge 17, 3) := by decide +kernel
theorem dX2_writeShingle_92 : decode cX2_writeShingle 92 = .ok (.aload_n 0, 1) := by decide +kernel
theorem dX2_writeShingle_93 : decode cX2_writeShingle 93 = .ok (.getfield 43, 3) := by decide +kernel
theorem dX2_writeShingle_96 : decode cX2_writeShingle 96 = .ok (.iload 7, 2) := by decide +kernel
theorem dX2_writeShingle_98 : decode cX2_writeShingle 98 = .ok (.iconst 1, 1) := by decide +kernel
theorem dX2_writeShingle_99 : decode cX2_writeShingle 99 = .ok (.bastore, 1) := by decide +kernel
theorem dX2_writeShingle_100 : decode cX2_writeShingle 100 = .ok (.iinc 7 1, 3) := by decide +kernel
theorem dX2_writeShingle_103 : decode cX2_writeShingle 103 = .ok (.goto (-28), 3) := by decide +kernel
theorem dX2_writeShingle_106 : decode cX2_writeShingle 106 = .ok (.aload_n 0, 1) := by decide +kernel
theorem dX2_writeShingle_107 : decode cX2_writeShingle 107 = .ok (.invokevirtual 68, 3) := by decide +kernel
theorem dX2_writeShingle_110 : decode cX2_writeShingle 110 = .ok (.istore 7, 2) := by decide +kernel
theorem dX2_writeShingle_112 : decode cX2_writeShingle 112 = .ok (.aload_n 0, 1) := by decide +kernel
theorem dX2_writeShingle_113 : decode cX2_writeShingle 113 = .ok (.getfield 43, 3) := by decide +kernel
theorem dX2_writeShingle_116 : decode cX2_writeShingle 116 = .ok (.iload_n 1, 1) := by decide +kernel
theorem dX2_writeShingle_117 : decode cX2_writeShingle 117 = .ok (.iload 7, 2) := by decide +kernel
theorem dX2_writeShingle_119 : decode cX2_writeShingle 119 = .ok (.ifCond .ne 7, 3) := by decide +kernel
theorem dX2_writeShingle_122 : decode cX2_writeShingle 122 = .ok (.iconst 1, 1) := by decide +kernel
theorem dX2_writeShingle_123 : decode cX2_writeShingle 123 = .ok (.goto 4, 3) := by decide +kernel
theorem dX2_writeShingle_126 : decode cX2_writeShingle 126 = .ok (.iconst 0, 1) := by decide +kernel
theorem dX2_writeShingle_127 : decode cX2_writeShingle 127 = .ok (.bastore, 1) := by decide +kernel
theorem dX2_writeShingle_128 : decode cX2_writeShingle 128 = .ok (.iload 7, 2) := by decide +kernel
theorem dX2_writeShingle_130 : decode cX2_writeShingle 130 = .ok (.ifCond .ne 5, 3) := by decide +kernel
theorem dX2_writeShingle_133 : decode cX2_writeShingle 133 = .ok (.iconst 0, 1) := by decide +kernel
theorem dX2_writeShingle_134 : decode cX2_writeShingle 134 = .ok (.ireturn, 1) := by decide +kernel
theorem dX2_writeShingle_135 : decode cX2_writeShingle 135 = .ok (.aload_n 2, 1) := by decide +kernel
theorem dX2_writeShingle_136 : decode cX2_writeShingle 136 = .ok (.iload_n 3, 1) := by decide +kernel
theorem dX2_writeShingle_137 : decode cX2_writeShingle 137 = .ok (.aload_n 0, 1) := by decide +kernel
theorem dX2_writeShingle_138 : decode cX2_writeShingle 138 = .ok (.getfield 39, 3) := by decide +kernel
theorem dX2_writeShingle_141 : decode cX2_writeShingle 141 = .ok (.iload_n 1, 1) := by decide +kernel
theorem dX2_writeShingle_142 : decode cX2_writeShingle 142 = .ok (.bipush 8, 2) := by decide +kernel
theorem dX2_writeShingle_144 : decode cX2_writeShingle 144 = .ok (.imul, 1) := by decide +kernel
theorem dX2_writeShingle_145 : decode cX2_writeShingle 145 = .ok (.bipush 8, 2) := by decide +kernel
theorem dX2_writeShingle_147 : decode cX2_writeShingle 147 = .ok (.invokestatic 72, 3) := by decide +kernel
theorem dX2_writeShingle_150 : decode cX2_writeShingle 150 = .ok (.iload_n 1, 1) := by decide +kernel
theorem dX2_writeShingle_151 : decode cX2_writeShingle 151 = .ok (.aload_n 0, 1) := by decide +kernel
theorem dX2_writeShingle_152 : decode cX2_writeShingle 152 = .ok (.getfield 33, 3) := by decide +kernel
theorem dX2_writeShingle_155 : decode cX2_writeShingle 155 = .ok (.if_icmp .ge 16, 3) := by decide +kernel
theorem dX2_writeShingle_158 : decode cX2_writeShingle 158 = .ok (.aload_n 0, 1) := by decide +kernel
theorem dX2_writeShingle_159 : decode cX2_writeShingle 159 = .ok (.dup, 1) := by decide +kernel
theorem dX2_writeShingle_160 : decode cX2_writeShingle 160 = .ok (.getfield 59, 3) := by decide +kernel
theorem dX2_writeShingle_163 : decode cX2_writeShingle 163 = .ok (.iconst 1, 1) := by decide +kernel
theorem dX2_writeShingle_164 : decode cX2_writeShingle 164 = .ok (.iadd, 1) := by decide +kernel
theorem dX2_writeShingle_165 : decode cX2_writeShingle 165 = .ok (.putfield 59, 3) := by decide +kernel
theorem dX2_writeShingle_168 : decode cX2_writeShingle 168 = .ok (.goto 13, 3) := by decide +kernel
theorem dX2_writeShingle_171 : decode cX2_writeShingle 171 = .ok (.aload_n 0, 1) := by decide +kernel
theorem dX2_writeShingle_172 : decode cX2_writeShingle 172 = .ok (.dup, 1) := by decide +kernel
theorem dX2_writeShingle_173 : decode cX2_writeShingle 173 = .ok (.getfield 62, 3) := by decide +kernel
theorem dX2_writeShingle_176 : decode cX2_writeShingle 176 = .ok (.iconst 1, 1) := by decide +kernel
theorem dX2_writeShingle_177 : decode cX2_writeShingle 177 = .ok (.iadd, 1) := by decide +kernel
theorem dX2_writeShingle_178 : decode cX2_writeShingle 178 = .ok (.putfield 62, 3) := by decide +kernel
theorem dX2_writeShingle_181 : decode cX2_writeShingle 181 = .ok (.iconst 1, 1) := by decide +kernel
theorem dX2_writeShingle_182 : decode cX2_writeShingle 182 = .ok (.ireturn, 1) := by decide +kernel
theorem dX8_merge_0 : decode cX8_merge 0 = .ok (.iconst 0, 1) := by decide +kernel
theorem dX8_merge_1 : decode cX8_merge 1 = .ok (.istore_n 1, 1) := by decide +kernel
theorem dX8_merge_2 : decode cX8_merge 2 = .ok (.iload_n 1, 1) := by decide +kernel
theorem dX8_merge_3 : decode cX8_merge 3 = .ok (.bipush 8, 2) := by decide +kernel
theorem dX8_merge_5 : decode cX8_merge 5 = .ok (.if_icmp .ge 67, 3) := by decide +kernel
theorem dX8_merge_8 : decode cX8_merge 8 = .ok (.bipush 8, 2) := by decide +kernel
theorem dX8_merge_10 : decode cX8_merge 10 = .ok (.aload_n 0, 1) := by decide +kernel
theorem dX8_merge_11 : decode cX8_merge 11 = .ok (.getfield 103, 3) := by decide +kernel
theorem dX8_merge_14 : decode cX8_merge 14 = .ok (.imul, 1) := by decide +kernel
theorem dX8_merge_15 : decode cX8_merge 15 = .ok (.iload_n 1, 1) := by decide +kernel
theorem dX8_merge_16 : decode cX8_merge 16 = .ok (.iadd, 1) := by decide +kernel
theorem dX8_merge_17 : decode cX8_merge 17 = .ok (.istore_n 2, 1) := by decide +kernel
theorem dX8_merge_18 : decode cX8_merge 18 = .ok (.aload_n 0, 1) := by decide +kernel
theorem dX8_merge_19 : decode cX8_merge 19 = .ok (.aload_n 0, 1) := by decide +kernel
theorem dX8_merge_20 : decode cX8_merge 20 = .ok (.getfield 59, 3) := by decide +kernel
theorem dX8_merge_23 : decode cX8_merge 23 = .ok (.aload_n 0, 1) := by decide +kernel
theorem dX8_merge_24 : decode cX8_merge 24 = .ok (.getfield 9, 3) := by decide +kernel
theorem dX8_merge_27 : decode cX8_merge 27 = .ok (.getfield 71, 3) := by decide +kernel
theorem dX8_merge_30 : decode cX8_merge 30 = .ok (.imul, 1) := by decide +kernel
theorem dX8_merge_31 : decode cX8_merge 31 = .ok (.iload_n 2, 1) := by decide +kernel
theorem dX8_merge_32 : decode cX8_merge 32 = .ok (.iadd, 1) := by decide +kernel
theorem dX8_merge_33 : decode cX8_merge 33 = .ok (.invokevirtual 137, 3) := by decide +kernel
theorem dX8_merge_36 : decode cX8_merge 36 = .ok (.istore_n 3, 1) := by decide +kernel
theorem dX8_merge_37 : decode cX8_merge 37 = .ok (.aload_n 0, 1) := by decide +kernel
theorem dX8_merge_38 : decode cX8_merge 38 = .ok (.getfield 9, 3) := by decide +kernel
theorem dX8_merge_41 : decode cX8_merge 41 = .ok (.aload_n 0, 1) := by decide +kernel
theorem dX8_merge_42 : decode cX8_merge 42 = .ok (.getfield 9, 3) := by decide +kernel
theorem dX8_merge_45 : decode cX8_merge 45 = .ok (.getfield 34, 3) := by decide +kernel
theorem dX8_merge_48 : decode cX8_merge 48 = .ok (.iload_n 2, 1) := by decide +kernel
theorem dX8_merge_49 : decode cX8_merge 49 = .ok (.iadd, 1) := by decide +kernel
theorem dX8_merge_50 : decode cX8_merge 50 = .ok (.aload_n 0, 1) := by decide +kernel
theorem dX8_merge_51 : decode cX8_merge 51 = .ok (.getfield 9, 3) := by decide +kernel
theorem dX8_merge_54 : decode cX8_merge 54 = .ok (.getfield 141, 3) := by decide +kernel
theorem dX8_merge_57 : decode cX8_merge 57 = .ok (.iload_n 3, 1) := by decide +kernel
theorem dX8_merge_58 : decode cX8_merge 58 = .ok (.invokevirtual 144, 3) := by decide +kernel
theorem dX8_merge_61 : decode cX8_merge 61 = .ok (.ifCond .ne 5, 3) := by decide +kernel
theorem dX8_merge_64 : decode cX8_merge 64 = .ok (.iconst 0, 1) := by decide +kernel
theorem dX8_merge_65 : decode cX8_merge 65 = .ok (.ireturn, 1) := by decide +kernel
theorem dX8_merge_66 : decode cX8_merge 66 = .ok (.iinc 1 1, 3) := by decide +kernel
theorem dX8_merge_69 : decode cX8_merge 69 = .ok (.goto (-67), 3) := by decide +kernel
theorem dX8_merge_72 : decode cX8_merge 72 = .ok (.aload_n 0, 1) := by decide +kernel
theorem dX8_merge_73 : decode cX8_merge 73 = .ok (.dup, 1) := by decide +kernel
theorem dX8_merge_74 : decode cX8_merge 74 = .ok (.getfield 103, 3) := by decide +kernel
theorem dX8_merge_77 : decode cX8_merge 77 = .ok (.iconst 1, 1) := by decide +kernel
theorem dX8_merge_78 : decode cX8_merge 78 = .ok (.iadd, 1) := by decide +kernel
theorem dX8_merge_79 : decode cX8_merge 79 = .ok (.putfield 103, 3) := by decide +kernel
theorem dX8_merge_82 : decode cX8_merge 82 = .ok (.iconst 1, 1) := by decide +kernel
theorem dX8_merge_83 : decode cX8_merge 83 = .ok (.ireturn, 1) := by decide +kernel
theorem dX8_becomeSafe_0 : decode cX8_becomeSafe 0 = .ok (.aload_n 0, 1) := by decide +kernel
theorem dX8_becomeSafe_1 : decode cX8_becomeSafe 1 = .ok (.getfield 9, 3) := by decide +kernel
theorem dX8_becomeSafe_4 : decode cX8_becomeSafe 4 = .ok (.invokevirtual 131, 3) := by decide +kernel
theorem dX8_becomeSafe_7 : decode cX8_becomeSafe 7 = .ok (.ifCond .ne 5, 3) := by decide +kernel
theorem dX8_becomeSafe_10 : decode cX8_becomeSafe 10 = .ok (.iconst 0, 1) := by decide +kernel
theorem dX8_becomeSafe_11 : decode cX8_becomeSafe 11 = .ok (.ireturn, 1) := by decide +kernel
theorem dX8_becomeSafe_12 : decode cX8_becomeSafe 12 = .ok (.aload_n 0, 1) := by decide +kernel
theorem dX8_becomeSafe_13 : decode cX8_becomeSafe 13 = .ok (.iconst 1, 1) := by decide +kernel
theorem dX8_becomeSafe_14 : decode cX8_becomeSafe 14 = .ok (.putfield 82, 3) := by decide +kernel
theorem dX8_becomeSafe_17 : decode cX8_becomeSafe 17 = .ok (.aload_n 0, 1) := by decide +kernel
theorem dX8_becomeSafe_18 : decode cX8_becomeSafe 18 = .ok (.iconst 0, 1) := by decide +kernel
theorem dX8_becomeSafe_19 : decode cX8_becomeSafe 19 = .ok (.putfield 103, 3) := by decide +kernel
theorem dX8_becomeSafe_22 : decode cX8_becomeSafe 22 = .ok (.iconst 1, 1) := by decide +kernel
theorem dX8_becomeSafe_23 : decode cX8_becomeSafe 23 = .ok (.ireturn, 1) := by decide +kernel
theorem dX8_bringBack_0 : decode cX8_bringBack 0 = .ok (.iconst 0, 1) := by decide +kernel
theorem dX8_bringBack_1 : decode cX8_bringBack 1 = .ok (.istore_n 1, 1) := by decide +kernel
theorem dX8_bringBack_2 : decode cX8_bringBack 2 = .ok (.iload_n 1, 1) := by decide +kernel
theorem dX8_bringBack_3 : decode cX8_bringBack 3 = .ok (.bipush 8, 2) := by decide +kernel
theorem dX8_bringBack_5 : decode cX8_bringBack 5 = .ok (.if_icmp .ge 103, 3) := by decide +kernel
theorem dX8_bringBack_8 : decode cX8_bringBack 8 = .ok (.bipush 8, 2) := by decide +kernel
theorem dX8_bringBack_10 : decode cX8_bringBack 10 = .ok (.aload_n 0, 1) := by decide +kernel
theorem dX8_bringBack_11 : decode cX8_bringBack 11 = .ok (.getfield 103, 3) := by decide +kernel
theorem dX8_bringBack_14 : decode cX8_bringBack 14 = .ok (.imul, 1) := by decide +kernel
theorem dX8_bringBack_15 : decode cX8_bringBack 15 = .ok (.iload_n 1, 1) := by decide +kernel
theorem dX8_bringBack_16 : decode cX8_bringBack 16 = .ok (.iadd, 1) := by decide +kernel
theorem dX8_bringBack_17 : decode cX8_bringBack 17 = .ok (.istore_n 2, 1) := by decide +kernel
theorem dX8_bringBack_18 : decode cX8_bringBack 18 = .ok (.aload_n 0, 1) := by decide +kernel
theorem dX8_bringBack_19 : decode cX8_bringBack 19 = .ok (.getfield 9, 3) := by decide +kernel
theorem dX8_bringBack_22 : decode cX8_bringBack 22 = .ok (.getfield 34, 3) := by decide +kernel
theorem dX8_bringBack_25 : decode cX8_bringBack 25 = .ok (.iload_n 2, 1) := by decide +kernel
theorem dX8_bringBack_26 : decode cX8_bringBack 26 = .ok (.iadd, 1) := by decide +kernel
theorem dX8_bringBack_27 : decode cX8_bringBack 27 = .ok (.istore_n 3, 1) := by decide +kernel
theorem dX8_bringBack_28 : decode cX8_bringBack 28 = .ok (.iload_n 3, 1) := by decide +kernel
theorem dX8_bringBack_29 : decode cX8_bringBack 29 = .ok (.aload_n 0, 1) := by decide +kernel
theorem dX8_bringBack_30 : decode cX8_bringBack 30 = .ok (.getfield 9, 3) := by decide +kernel
theorem dX8_bringBack_33 : decode cX8_bringBack 33 = .ok (.getfield 78, 3) := by decide +kernel
theorem dX8_bringBack_36 : decode cX8_bringBack 36 = .ok (.arraylength, 1) := by decide +kernel
theorem dX8_bringBack_37 : decode cX8_bringBack 37 = .ok (.if_icmp .ge 28, 3) := by decide +kernel
theorem dX8_bringBack_40 : decode cX8_bringBack 40 = .ok (.aload_n 0, 1) := by decide +kernel
theorem dX8_bringBack_41 : decode cX8_bringBack 41 = .ok (.getfield 9, 3) := by decide +kernel
theorem dX8_bringBack_44 : decode cX8_bringBack 44 = .ok (.getfield 78, 3) := by decide +kernel
theorem dX8_bringBack_47 : decode cX8_bringBack 47 = .ok (.iload_n 3, 1) := by decide +kernel
theorem dX8_bringBack_48 : decode cX8_bringBack 48 = .ok (.baload, 1) := by decide +kernel
theorem dX8_bringBack_49 : decode cX8_bringBack 49 = .ok (.ifCond .eq 16, 3) := by decide +kernel
theorem dX8_bringBack_52 : decode cX8_bringBack 52 = .ok (.aload_n 0, 1) := by decide +kernel
theorem dX8_bringBack_53 : decode cX8_bringBack 53 = .ok (.getfield 9, 3) := by decide +kernel
theorem dX8_bringBack_56 : decode cX8_bringBack 56 = .ok (.dup, 1) := by decide +kernel
theorem dX8_bringBack_57 : decode cX8_bringBack 57 = .ok (.getfield 86, 3) := by decide +kernel
theorem dX8_bringBack_60 : decode cX8_bringBack 60 = .ok (.iconst 1, 1) := by decide +kernel
theorem dX8_bringBack_61 : decode cX8_bringBack 61 = .ok (.iadd, 1) := by decide +kernel
theorem dX8_bringBack_62 : decode cX8_bringBack 62 = .ok (.putfield 86, 3) := by decide +kernel
theorem dX8_bringBack_65 : decode cX8_bringBack 65 = .ok (.aload_n 0, 1) := by decide +kernel
theorem dX8_bringBack_66 : decode cX8_bringBack 66 = .ok (.getfield 9, 3) := by decide +kernel
theorem dX8_bringBack_69 : decode cX8_bringBack 69 = .ok (.aload_n 0, 1) := by decide +kernel
theorem dX8_bringBack_70 : decode cX8_bringBack 70 = .ok (.getfield 59, 3) := by decide +kernel
theorem dX8_bringBack_73 : decode cX8_bringBack 73 = .ok (.aload_n 0, 1) := by decide +kernel
theorem dX8_bringBack_74 : decode cX8_bringBack 74 = .ok (.getfield 9, 3) := by decide +kernel
theorem dX8_bringBack_77 : decode cX8_bringBack 77 = .ok (.getfield 71, 3) := by decide +kernel
theorem dX8_bringBack_80 : decode cX8_bringBack 80 = .ok (.imul, 1) := by decide +kernel
theorem dX8_bringBack_81 : decode cX8_bringBack 81 = .ok (.iload_n 2, 1) := by decide +kernel
theorem dX8_bringBack_82 : decode cX8_bringBack 82 = .ok (.iadd, 1) := by decide +kernel
theorem dX8_bringBack_83 : decode cX8_bringBack 83 = .ok (.aload_n 0, 1) := by decide +kernel
theorem dX8_bringBack_84 : decode cX8_bringBack 84 = .ok (.getfield 9, 3) := by decide +kernel
theorem dX8_bringBack_87 : decode cX8_bringBack 87 = .ok (.getfield 141, 3) := by decide +kernel
theorem dX8_bringBack_90 : decode cX8_bringBack 90 = .ok (.iload_n 3, 1) := by decide +kernel
theorem dX8_bringBack_91 : decode cX8_bringBack 91 = .ok (.bipush 8, 2) := by decide +kernel
theorem dX8_bringBack_93 : decode cX8_bringBack 93 = .ok (.imul, 1) := by decide +kernel
theorem dX8_bringBack_94 : decode cX8_bringBack 94 = .ok (.invokevirtual 144, 3) := by decide +kernel
theorem dX8_bringBack_97 : decode cX8_bringBack 97 = .ok (.ifCond .ne 5, 3) := by decide +kernel
theorem dX8_bringBack_100 : decode cX8_bringBack 100 = .ok (.iconst 0, 1) := by decide +kernel
theorem dX8_bringBack_101 : decode cX8_bringBack 101 = .ok (.ireturn, 1) := by decide +kernel
theorem dX8_bringBack_102 : decode cX8_bringBack 102 = .ok (.iinc 1 1, 3) := by decide +kernel
theorem dX8_bringBack_105 : decode cX8_bringBack 105 = .ok (.goto (-103), 3) := by decide +kernel
theorem dX8_bringBack_108 : decode cX8_bringBack 108 = .ok (.aload_n 0, 1) := by decide +kernel
theorem dX8_bringBack_109 : decode cX8_bringBack 109 = .ok (.dup, 1) := by decide +kernel
theorem dX8_bringBack_110 : decode cX8_bringBack 110 = .ok (.getfield 103, 3) := by decide +kernel
theorem dX8_bringBack_113 : decode cX8_bringBack 113 = .ok (.iconst 1, 1) := by decide +kernel
theorem dX8_bringBack_114 : decode cX8_bringBack 114 = .ok (.iadd, 1) := by decide +kernel
theorem dX8_bringBack_115 : decode cX8_bringBack 115 = .ok (.putfield 103, 3) := by decide +kernel
theorem dX8_bringBack_118 : decode cX8_bringBack 118 = .ok (.iconst 1, 1) := by decide +kernel
theorem dX8_bringBack_119 : decode cX8_bringBack 119 = .ok (.ireturn, 1) := by decide +kernel
theorem dX8_finish_0 : decode cX8_finish 0 = .ok (.aload_n 0, 1) := by decide +kernel
theorem dX8_finish_1 : decode cX8_finish 1 = .ok (.getfield 59, 3) := by decide +kernel
theorem dX8_finish_4 : decode cX8_finish 4 = .ok (.ifCond .lt 25, 3) := by decide +kernel
theorem dX8_finish_7 : decode cX8_finish 7 = .ok (.aload_n 0, 1) := by decide +kernel
theorem dX8_finish_8 : decode cX8_finish 8 = .ok (.getfield 59, 3) := by decide +kernel
theorem dX8_finish_11 : decode cX8_finish 11 = .ok (.aload_n 0, 1) := by decide +kernel
theorem dX8_finish_12 : decode cX8_finish 12 = .ok (.getfield 21, 3) := by decide +kernel
theorem dX8_finish_15 : decode cX8_finish 15 = .ok (.arraylength, 1) := by decide +kernel
theorem dX8_finish_16 : decode cX8_finish 16 = .ok (.if_icmp .ge 13, 3) := by decide +kernel
theorem dX8_finish_19 : decode cX8_finish 19 = .ok (.aload_n 0, 1) := by decide +kernel
theorem dX8_finish_20 : decode cX8_finish 20 = .ok (.getfield 9, 3) := by decide +kernel
theorem dX8_finish_23 : decode cX8_finish 23 = .ok (.invokevirtual 131, 3) := by decide +kernel
theorem dX8_finish_26 : decode cX8_finish 26 = .ok (.ifCond .ne 5, 3) := by decide +kernel
theorem dX8_finish_29 : decode cX8_finish 29 = .ok (.iconst 0, 1) := by decide +kernel
theorem dX8_finish_30 : decode cX8_finish 30 = .ok (.ireturn, 1) := by decide +kernel
theorem dX8_finish_31 : decode cX8_finish 31 = .ok (.aload_n 0, 1) := by decide +kernel
theorem dX8_finish_32 : decode cX8_finish 32 = .ok (.getfield 21, 3) := by decide +kernel
theorem dX8_finish_35 : decode cX8_finish 35 = .ok (.aload_n 0, 1) := by decide +kernel
theorem dX8_finish_36 : decode cX8_finish 36 = .ok (.getfield 59, 3) := by decide +kernel
theorem dX8_finish_39 : decode cX8_finish 39 = .ok (.aload_n 0, 1) := by decide +kernel
theorem dX8_finish_40 : decode cX8_finish 40 = .ok (.getfield 134, 3) := by decide +kernel
theorem dX8_finish_43 : decode cX8_finish 43 = .ok (.iastore, 1) := by decide +kernel
theorem dX8_finish_44 : decode cX8_finish 44 = .ok (.aload_n 0, 1) := by decide +kernel
theorem dX8_finish_45 : decode cX8_finish 45 = .ok (.iconst (-1), 1) := by decide +kernel
theorem dX8_finish_46 : decode cX8_finish 46 = .ok (.putfield 59, 3) := by decide +kernel
theorem dX8_finish_49 : decode cX8_finish 49 = .ok (.aload_n 0, 1) := by decide +kernel
theorem dX8_finish_50 : decode cX8_finish 50 = .ok (.iconst 0, 1) := by decide +kernel
theorem dX8_finish_51 : decode cX8_finish 51 = .ok (.putfield 82, 3) := by decide +kernel
theorem dX8_finish_54 : decode cX8_finish 54 = .ok (.aload_n 0, 1) := by decide +kernel
theorem dX8_finish_55 : decode cX8_finish 55 = .ok (.aload_n 0, 1) := by decide +kernel
theorem dX8_finish_56 : decode cX8_finish 56 = .ok (.invokevirtual 100, 3) := by decide +kernel
theorem dX8_finish_59 : decode cX8_finish 59 = .ok (.putfield 68, 3) := by decide +kernel
theorem dX8_finish_62 : decode cX8_finish 62 = .ok (.aload_n 0, 1) := by decide +kernel
theorem dX8_finish_63 : decode cX8_finish 63 = .ok (.dup, 1) := by decide +kernel
theorem dX8_finish_64 : decode cX8_finish 64 = .ok (.getfield 147, 3) := by decide +kernel
theorem dX8_finish_67 : decode cX8_finish 67 = .ok (.iconst 1, 1) := by decide +kernel
theorem dX8_finish_68 : decode cX8_finish 68 = .ok (.iadd, 1) := by decide +kernel
theorem dX8_finish_69 : decode cX8_finish 69 = .ok (.putfield 147, 3) := by decide +kernel
theorem dX8_finish_72 : decode cX8_finish 72 = .ok (.iconst 1, 1) := by decide +kernel
theorem dX8_finish_73 : decode cX8_finish 73 = .ok (.ireturn, 1) := by decide +kernel
theorem dX8_step_0 : decode cX8_step 0 = .ok (.aload_n 0, 1) := by decide +kernel
theorem dX8_step_1 : decode cX8_step 1 = .ok (.invokevirtual 109, 3) := by decide +kernel
theorem dX8_step_4 : decode cX8_step 4 = .ok (.istore_n 1, 1) := by decide +kernel
theorem dX8_step_5 : decode cX8_step 5 = .ok (.iconst 1, 1) := by decide +kernel
theorem dX8_step_6 : decode cX8_step 6 = .ok (.istore_n 2, 1) := by decide +kernel
theorem dX8_step_7 : decode cX8_step 7 = .ok (.iload_n 1, 1) := by decide +kernel
theorem dX8_step_8 : decode cX8_step 8 = .ok (.tableswitch 88 1 6 #[40, 48, 56, 64, 72, 80], 40) := by decide +kernel
theorem dX8_step_48 : decode cX8_step 48 = .ok (.aload_n 0, 1) := by decide +kernel
theorem dX8_step_49 : decode cX8_step 49 = .ok (.invokevirtual 112, 3) := by decide +kernel
theorem dX8_step_52 : decode cX8_step 52 = .ok (.istore_n 2, 1) := by decide +kernel
theorem dX8_step_53 : decode cX8_step 53 = .ok (.goto 43, 3) := by decide +kernel
theorem dX8_step_56 : decode cX8_step 56 = .ok (.aload_n 0, 1) := by decide +kernel
theorem dX8_step_57 : decode cX8_step 57 = .ok (.invokevirtual 116, 3) := by decide +kernel
theorem dX8_step_60 : decode cX8_step 60 = .ok (.istore_n 2, 1) := by decide +kernel
theorem dX8_step_61 : decode cX8_step 61 = .ok (.goto 35, 3) := by decide +kernel
theorem dX8_step_64 : decode cX8_step 64 = .ok (.aload_n 0, 1) := by decide +kernel
theorem dX8_step_65 : decode cX8_step 65 = .ok (.invokevirtual 119, 3) := by decide +kernel
theorem dX8_step_68 : decode cX8_step 68 = .ok (.istore_n 2, 1) := by decide +kernel
theorem dX8_step_69 : decode cX8_step 69 = .ok (.goto 27, 3) := by decide +kernel
theorem dX8_step_72 : decode cX8_step 72 = .ok (.aload_n 0, 1) := by decide +kernel
theorem dX8_step_73 : decode cX8_step 73 = .ok (.invokevirtual 122, 3) := by decide +kernel
theorem dX8_step_76 : decode cX8_step 76 = .ok (.istore_n 2, 1) := by decide +kernel
theorem dX8_step_77 : decode cX8_step 77 = .ok (.goto 19, 3) := by decide +kernel
theorem dX8_step_80 : decode cX8_step 80 = .ok (.aload_n 0, 1) := by decide +kernel
theorem dX8_step_81 : decode cX8_step 81 = .ok (.invokevirtual 125, 3) := by decide +kernel
theorem dX8_step_84 : decode cX8_step 84 = .ok (.istore_n 2, 1) := by decide +kernel
theorem dX8_step_85 : decode cX8_step 85 = .ok (.goto 11, 3) := by decide +kernel
theorem dX8_step_88 : decode cX8_step 88 = .ok (.aload_n 0, 1) := by decide +kernel
theorem dX8_step_89 : decode cX8_step 89 = .ok (.invokevirtual 128, 3) := by decide +kernel
theorem dX8_step_92 : decode cX8_step 92 = .ok (.istore_n 2, 1) := by decide +kernel
theorem dX8_step_93 : decode cX8_step 93 = .ok (.goto 3, 3) := by decide +kernel
theorem dX8_step_96 : decode cX8_step 96 = .ok (.iload_n 2, 1) := by decide +kernel
theorem dX8_step_97 : decode cX8_step 97 = .ok (.ifCond .eq 7, 3) := by decide +kernel
theorem dX8_step_100 : decode cX8_step 100 = .ok (.iload_n 1, 1) := by decide +kernel
theorem dX8_step_101 : decode cX8_step 101 = .ok (.goto 5, 3) := by decide +kernel
theorem dX8_step_104 : decode cX8_step 104 = .ok (.bipush (-99), 2) := by decide +kernel
theorem dX8_step_106 : decode cX8_step 106 = .ok (.ireturn, 1) := by decide +kernel
theorem dX8_write_0 : decode cX8_write 0 = .ok (.iconst 4, 1) := by decide +kernel
theorem dX8_write_1 : decode cX8_write 1 = .ok (.aload_n 0, 1) := by decide +kernel
theorem dX8_write_2 : decode cX8_write 2 = .ok (.invokevirtual 89, 3) := by decide +kernel
theorem dX8_write_5 : decode cX8_write 5 = .ok (.imul, 1) := by decide +kernel
theorem dX8_write_6 : decode cX8_write 6 = .ok (.aload_n 0, 1) := by decide +kernel
theorem dX8_write_7 : decode cX8_write 7 = .ok (.getfield 9, 3) := by decide +kernel
theorem dX8_write_10 : decode cX8_write 10 = .ok (.getfield 28, 3) := by decide +kernel
theorem dX8_write_13 : decode cX8_write 13 = .ok (.if_icmp .ge 14, 3) := by decide +kernel
theorem dX8_write_16 : decode cX8_write 16 = .ok (.aload_n 0, 1) := by decide +kernel
theorem dX8_write_17 : decode cX8_write 17 = .ok (.invokevirtual 93, 3) := by decide +kernel
theorem dX8_write_20 : decode cX8_write 20 = .ok (.bipush (-99), 2) := by decide +kernel
theorem dX8_write_22 : decode cX8_write 22 = .ok (.if_icmp .ne 5, 3) := by decide +kernel
theorem dX8_write_25 : decode cX8_write 25 = .ok (.iconst 0, 1) := by decide +kernel
theorem dX8_write_26 : decode cX8_write 26 = .ok (.ireturn, 1) := by decide +kernel
theorem dX8_write_27 : decode cX8_write 27 = .ok (.iconst 0, 1) := by decide +kernel
theorem dX8_write_28 : decode cX8_write 28 = .ok (.istore 4, 2) := by decide +kernel
theorem dX8_write_30 : decode cX8_write 30 = .ok (.iload 4, 2) := by decide +kernel
theorem dX8_write_32 : decode cX8_write 32 = .ok (.sipush 10000, 3) := by decide +kernel
theorem dX8_write_35 : decode cX8_write 35 = .ok (.if_icmp .ge 27, 3) := by decide +kernel
theorem dX8_write_38 : decode cX8_write 38 = .ok (.aload_n 0, 1) := by decide +kernel
theorem dX8_write_39 : decode cX8_write 39 = .ok (.invokevirtual 89, 3) := by decide +kernel
theorem dX8_write_42 : decode cX8_write 42 = .ok (.ifCond .ne 20, 3) := by decide +kernel
theorem dX8_write_45 : decode cX8_write 45 = .ok (.aload_n 0, 1) := by decide +kernel
theorem dX8_write_46 : decode cX8_write 46 = .ok (.invokevirtual 93, 3) := by decide +kernel
theorem dX8_write_49 : decode cX8_write 49 = .ok (.bipush (-99), 2) := by decide +kernel
theorem dX8_write_51 : decode cX8_write 51 = .ok (.if_icmp .ne 5, 3) := by decide +kernel
theorem dX8_write_54 : decode cX8_write 54 = .ok (.iconst 0, 1) := by decide +kernel
theorem dX8_write_55 : decode cX8_write 55 = .ok (.ireturn, 1) := by decide +kernel
theorem dX8_write_56 : decode cX8_write 56 = .ok (.iinc 4 1, 3) := by decide +kernel
theorem dX8_write_59 : decode cX8_write 59 = .ok (.goto (-29), 3) := by decide +kernel
theorem dX8_write_62 : decode cX8_write 62 = .ok (.aload_n 0, 1) := by decide +kernel
theorem dX8_write_63 : decode cX8_write 63 = .ok (.getfield 65, 3) := by decide +kernel
theorem dX8_write_66 : decode cX8_write 66 = .ok (.aload_n 0, 1) := by decide +kernel
theorem dX8_write_67 : decode cX8_write 67 = .ok (.getfield 9, 3) := by decide +kernel
theorem dX8_write_70 : decode cX8_write 70 = .ok (.getfield 28, 3) := by decide +kernel
theorem dX8_write_73 : decode cX8_write 73 = .ok (.irem, 1) := by decide +kernel
theorem dX8_write_74 : decode cX8_write 74 = .ok (.istore 4, 2) := by decide +kernel
theorem dX8_write_76 : decode cX8_write 76 = .ok (.iload_n 1, 1) := by decide +kernel
theorem dX8_write_77 : decode cX8_write 77 = .ok (.ifCond .lt 36, 3) := by decide +kernel
theorem dX8_write_80 : decode cX8_write 80 = .ok (.iload_n 1, 1) := by decide +kernel
theorem dX8_write_81 : decode cX8_write 81 = .ok (.aload_n 0, 1) := by decide +kernel
theorem dX8_write_82 : decode cX8_write 82 = .ok (.getfield 37, 3) := by decide +kernel
theorem dX8_write_85 : decode cX8_write 85 = .ok (.arraylength, 1) := by decide +kernel
theorem dX8_write_86 : decode cX8_write 86 = .ok (.if_icmp .ge 27, 3) := by decide +kernel
theorem dX8_write_89 : decode cX8_write 89 = .ok (.iload 4, 2) := by decide +kernel
theorem dX8_write_91 : decode cX8_write 91 = .ok (.aload_n 0, 1) := by decide +kernel
theorem dX8_write_92 : decode cX8_write 92 = .ok (.getfield 31, 3) := by decide +kernel
theorem dX8_write_95 : decode cX8_write 95 = .ok (.arraylength, 1) := by decide +kernel
theorem dX8_write_96 : decode cX8_write 96 = .ok (.if_icmp .ge 17, 3) := by decide +kernel
theorem dX8_write_99 : decode cX8_write 99 = .ok (.aload_n 0, 1) := by decide +kernel
theorem dX8_write_100 : decode cX8_write 100 = .ok (.getfield 9, 3) := by decide +kernel
theorem dX8_write_103 : decode cX8_write 103 = .ok (.iload 4, 2) := by decide +kernel
theorem dX8_write_105 : decode cX8_write 105 = .ok (.aload_n 2, 1) := by decide +kernel
theorem dX8_write_106 : decode cX8_write 106 = .ok (.iload_n 3, 1) := by decide +kernel
theorem dX8_write_107 : decode cX8_write 107 = .ok (.invokevirtual 96, 3) := by decide +kernel
theorem dX8_write_110 : decode cX8_write 110 = .ok (.ifCond .ne 5, 3) := by decide +kernel
theorem dX8_write_113 : decode cX8_write 113 = .ok (.iconst 0, 1) := by decide +kernel
theorem dX8_write_114 : decode cX8_write 114 = .ok (.ireturn, 1) := by decide +kernel
theorem dX8_write_115 : decode cX8_write 115 = .ok (.aload_n 0, 1) := by decide +kernel
theorem dX8_write_116 : decode cX8_write 116 = .ok (.getfield 31, 3) := by decide +kernel
theorem dX8_write_119 : decode cX8_write 119 = .ok (.iload 4, 2) := by decide +kernel
theorem dX8_write_121 : decode cX8_write 121 = .ok (.iload_n 1, 1) := by decide +kernel
theorem dX8_write_122 : decode cX8_write 122 = .ok (.iastore, 1) := by decide +kernel
theorem dX8_write_123 : decode cX8_write 123 = .ok (.aload_n 0, 1) := by decide +kernel
theorem dX8_write_124 : decode cX8_write 124 = .ok (.getfield 37, 3) := by decide +kernel
theorem dX8_write_127 : decode cX8_write 127 = .ok (.iload_n 1, 1) := by decide +kernel
theorem dX8_write_128 : decode cX8_write 128 = .ok (.aload_n 0, 1) := by decide +kernel
theorem dX8_write_129 : decode cX8_write 129 = .ok (.getfield 65, 3) := by decide +kernel
theorem dX8_write_132 : decode cX8_write 132 = .ok (.iastore, 1) := by decide +kernel
theorem dX8_write_133 : decode cX8_write 133 = .ok (.aload_n 0, 1) := by decide +kernel
theorem dX8_write_134 : decode cX8_write 134 = .ok (.dup, 1) := by decide +kernel
theorem dX8_write_135 : decode cX8_write 135 = .ok (.getfield 65, 3) := by decide +kernel
theorem dX8_write_138 : decode cX8_write 138 = .ok (.iconst 1, 1) := by decide +kernel
theorem dX8_write_139 : decode cX8_write 139 = .ok (.iadd, 1) := by decide +kernel
theorem dX8_write_140 : decode cX8_write 140 = .ok (.putfield 65, 3) := by decide +kernel
theorem dX8_write_143 : decode cX8_write 143 = .ok (.iconst 1, 1) := by decide +kernel
theorem dX8_write_144 : decode cX8_write 144 = .ok (.ireturn, 1) := by decide +kernel
theorem dX6_listChosen_0 : decode cX6_listChosen 0 = .ok (.aload_n 0, 1) := by decide +kernel
theorem dX6_listChosen_1 : decode cX6_listChosen 1 = .ok (.getfield 37, 3) := by decide +kernel
theorem dX6_listChosen_4 : decode cX6_listChosen 4 = .ok (.lconst 0, 1) := by decide +kernel
theorem dX6_listChosen_5 : decode cX6_listChosen 5 = .ok (.invokestatic 98, 3) := by decide +kernel
theorem dX6_listChosen_8 : decode cX6_listChosen 8 = .ok (.iconst 0, 1) := by decide +kernel
theorem dX6_listChosen_9 : decode cX6_listChosen 9 = .ok (.istore_n 3, 1) := by decide +kernel
theorem dX6_listChosen_10 : decode cX6_listChosen 10 = .ok (.iload_n 3, 1) := by decide +kernel
theorem dX6_listChosen_11 : decode cX6_listChosen 11 = .ok (.bipush 24, 2) := by decide +kernel
theorem dX6_listChosen_13 : decode cX6_listChosen 13 = .ok (.if_icmp .ge 43, 3) := by decide +kernel
theorem dX6_listChosen_16 : decode cX6_listChosen 16 = .ok (.iload_n 1, 1) := by decide +kernel
theorem dX6_listChosen_17 : decode cX6_listChosen 17 = .ok (.iload_n 3, 1) := by decide +kernel
theorem dX6_listChosen_18 : decode cX6_listChosen 18 = .ok (.iadd, 1) := by decide +kernel
theorem dX6_listChosen_19 : decode cX6_listChosen 19 = .ok (.iload_n 2, 1) := by decide +kernel
theorem dX6_listChosen_20 : decode cX6_listChosen 20 = .ok (.if_icmp .ge 36, 3) := by decide +kernel
theorem dX6_listChosen_23 : decode cX6_listChosen 23 = .ok (.aload_n 0, 1) := by decide +kernel
theorem dX6_listChosen_24 : decode cX6_listChosen 24 = .ok (.getfield 37, 3) := by decide +kernel
theorem dX6_listChosen_27 : decode cX6_listChosen 27 = .ok (.iload_n 3, 1) := by decide +kernel
theorem dX6_listChosen_28 : decode cX6_listChosen 28 = .ok (.iconst 4, 1) := by decide +kernel
theorem dX6_listChosen_29 : decode cX6_listChosen 29 = .ok (.idiv, 1) := by decide +kernel
theorem dX6_listChosen_30 : decode cX6_listChosen 30 = .ok (.dup2, 1) := by decide +kernel
theorem dX6_listChosen_31 : decode cX6_listChosen 31 = .ok (.laload, 1) := by decide +kernel
theorem dX6_listChosen_32 : decode cX6_listChosen 32 = .ok (.aload_n 0, 1) := by decide +kernel
theorem dX6_listChosen_33 : decode cX6_listChosen 33 = .ok (.getfield 33, 3) := by decide +kernel
theorem dX6_listChosen_36 : decode cX6_listChosen 36 = .ok (.iload_n 1, 1) := by decide +kernel
theorem dX6_listChosen_37 : decode cX6_listChosen 37 = .ok (.iload_n 3, 1) := by decide +kernel
theorem dX6_listChosen_38 : decode cX6_listChosen 38 = .ok (.iadd, 1) := by decide +kernel
theorem dX6_listChosen_39 : decode cX6_listChosen 39 = .ok (.iaload, 1) := by decide +kernel
theorem dX6_listChosen_40 : decode cX6_listChosen 40 = .ok (.i2l, 1) := by decide +kernel
theorem dX6_listChosen_41 : decode cX6_listChosen 41 = .ok (.bipush 16, 2) := by decide +kernel
theorem dX6_listChosen_43 : decode cX6_listChosen 43 = .ok (.iload_n 3, 1) := by decide +kernel
theorem dX6_listChosen_44 : decode cX6_listChosen 44 = .ok (.iconst 4, 1) := by decide +kernel
theorem dX6_listChosen_45 : decode cX6_listChosen 45 = .ok (.irem, 1) := by decide +kernel
theorem dX6_listChosen_46 : decode cX6_listChosen 46 = .ok (.imul, 1) := by decide +kernel
theorem dX6_listChosen_47 : decode cX6_listChosen 47 = .ok (.lshl, 1) := by decide +kernel
theorem dX6_listChosen_48 : decode cX6_listChosen 48 = .ok (.lor, 1) := by decide +kernel
theorem dX6_listChosen_49 : decode cX6_listChosen 49 = .ok (.lastore, 1) := by decide +kernel
theorem dX6_listChosen_50 : decode cX6_listChosen 50 = .ok (.iinc 3 1, 3) := by decide +kernel
theorem dX6_listChosen_53 : decode cX6_listChosen 53 = .ok (.goto (-43), 3) := by decide +kernel
theorem dX6_listChosen_56 : decode cX6_listChosen 56 = .ok (.aload_n 0, 1) := by decide +kernel
theorem dX6_listChosen_57 : decode cX6_listChosen 57 = .ok (.getfield 37, 3) := by decide +kernel
theorem dX6_listChosen_60 : decode cX6_listChosen 60 = .ok (.bipush 6, 2) := by decide +kernel
theorem dX6_listChosen_62 : decode cX6_listChosen 62 = .ok (.iload_n 2, 1) := by decide +kernel
theorem dX6_listChosen_63 : decode cX6_listChosen 63 = .ok (.i2l, 1) := by decide +kernel
theorem dX6_listChosen_64 : decode cX6_listChosen 64 = .ok (.lastore, 1) := by decide +kernel
theorem dX6_listChosen_65 : decode cX6_listChosen 65 = .ok (.return_, 1) := by decide +kernel
theorem dX6_writeJournal_0 : decode cX6_writeJournal 0 = .ok (.iload_n 1, 1) := by decide +kernel
theorem dX6_writeJournal_1 : decode cX6_writeJournal 1 = .ok (.bipush 24, 2) := by decide +kernel
theorem dX6_writeJournal_3 : decode cX6_writeJournal 3 = .ok (.iadd, 1) := by decide +kernel
theorem dX6_writeJournal_4 : decode cX6_writeJournal 4 = .ok (.iconst 1, 1) := by decide +kernel
theorem dX6_writeJournal_5 : decode cX6_writeJournal 5 = .ok (.isub, 1) := by decide +kernel
theorem dX6_writeJournal_6 : decode cX6_writeJournal 6 = .ok (.bipush 24, 2) := by decide +kernel
theorem dX6_writeJournal_8 : decode cX6_writeJournal 8 = .ok (.idiv, 1) := by decide +kernel
theorem dX6_writeJournal_9 : decode cX6_writeJournal 9 = .ok (.istore_n 2, 1) := by decide +kernel
theorem dX6_writeJournal_10 : decode cX6_writeJournal 10 = .ok (.iconst 0, 1) := by decide +kernel
theorem dX6_writeJournal_11 : decode cX6_writeJournal 11 = .ok (.istore_n 3, 1) := by decide +kernel
theorem dX6_writeJournal_12 : decode cX6_writeJournal 12 = .ok (.iload_n 3, 1) := by decide +kernel
theorem dX6_writeJournal_13 : decode cX6_writeJournal 13 = .ok (.iload_n 2, 1) := by decide +kernel
theorem dX6_writeJournal_14 : decode cX6_writeJournal 14 = .ok (.if_icmp .ge 41, 3) := by decide +kernel
theorem dX6_writeJournal_17 : decode cX6_writeJournal 17 = .ok (.aload_n 0, 1) := by decide +kernel
theorem dX6_writeJournal_18 : decode cX6_writeJournal 18 = .ok (.iload_n 3, 1) := by decide +kernel
theorem dX6_writeJournal_19 : decode cX6_writeJournal 19 = .ok (.bipush 24, 2) := by decide +kernel
theorem dX6_writeJournal_21 : decode cX6_writeJournal 21 = .ok (.imul, 1) := by decide +kernel
theorem dX6_writeJournal_22 : decode cX6_writeJournal 22 = .ok (.iload_n 1, 1) := by decide +kernel
theorem dX6_writeJournal_23 : decode cX6_writeJournal 23 = .ok (.invokevirtual 94, 3) := by decide +kernel
theorem dX6_writeJournal_26 : decode cX6_writeJournal 26 = .ok (.aload_n 0, 1) := by decide +kernel
theorem dX6_writeJournal_27 : decode cX6_writeJournal 27 = .ok (.getfield 15, 3) := by decide +kernel
theorem dX6_writeJournal_30 : decode cX6_writeJournal 30 = .ok (.iload_n 3, 1) := by decide +kernel
theorem dX6_writeJournal_31 : decode cX6_writeJournal 31 = .ok (.aload_n 0, 1) := by decide +kernel
theorem dX6_writeJournal_32 : decode cX6_writeJournal 32 = .ok (.getfield 37, 3) := by decide +kernel
theorem dX6_writeJournal_35 : decode cX6_writeJournal 35 = .ok (.iconst 0, 1) := by decide +kernel
theorem dX6_writeJournal_36 : decode cX6_writeJournal 36 = .ok (.invokevirtual 87, 3) := by decide +kernel
theorem dX6_writeJournal_39 : decode cX6_writeJournal 39 = .ok (.ifCond .ne 5, 3) := by decide +kernel
theorem dX6_writeJournal_42 : decode cX6_writeJournal 42 = .ok (.iconst 0, 1) := by decide +kernel
theorem dX6_writeJournal_43 : decode cX6_writeJournal 43 = .ok (.ireturn, 1) := by decide +kernel
theorem dX6_writeJournal_44 : decode cX6_writeJournal 44 = .ok (.aload_n 0, 1) := by decide +kernel
theorem dX6_writeJournal_45 : decode cX6_writeJournal 45 = .ok (.iconst 0, 1) := by decide +kernel
theorem dX6_writeJournal_46 : decode cX6_writeJournal 46 = .ok (.putfield 81, 3) := by decide +kernel
theorem dX6_writeJournal_49 : decode cX6_writeJournal 49 = .ok (.iinc 3 1, 3) := by decide +kernel
theorem dX6_writeJournal_52 : decode cX6_writeJournal 52 = .ok (.goto (-40), 3) := by decide +kernel
theorem dX6_writeJournal_55 : decode cX6_writeJournal 55 = .ok (.iconst 0, 1) := by decide +kernel
theorem dX6_writeJournal_56 : decode cX6_writeJournal 56 = .ok (.istore_n 3, 1) := by decide +kernel
theorem dX6_writeJournal_57 : decode cX6_writeJournal 57 = .ok (.iload_n 3, 1) := by decide +kernel
theorem dX6_writeJournal_58 : decode cX6_writeJournal 58 = .ok (.iload_n 1, 1) := by decide +kernel
theorem dX6_writeJournal_59 : decode cX6_writeJournal 59 = .ok (.if_icmp .ge 37, 3) := by decide +kernel
theorem dX6_writeJournal_62 : decode cX6_writeJournal 62 = .ok (.aload_n 0, 1) := by decide +kernel
theorem dX6_writeJournal_63 : decode cX6_writeJournal 63 = .ok (.getfield 15, 3) := by decide +kernel
theorem dX6_writeJournal_66 : decode cX6_writeJournal 66 = .ok (.iload_n 2, 1) := by decide +kernel
theorem dX6_writeJournal_67 : decode cX6_writeJournal 67 = .ok (.iload_n 3, 1) := by decide +kernel
theorem dX6_writeJournal_68 : decode cX6_writeJournal 68 = .ok (.iadd, 1) := by decide +kernel
theorem dX6_writeJournal_69 : decode cX6_writeJournal 69 = .ok (.aload_n 0, 1) := by decide +kernel
theorem dX6_writeJournal_70 : decode cX6_writeJournal 70 = .ok (.getfield 25, 3) := by decide +kernel
theorem dX6_writeJournal_73 : decode cX6_writeJournal 73 = .ok (.aload_n 0, 1) := by decide +kernel
theorem dX6_writeJournal_74 : decode cX6_writeJournal 74 = .ok (.getfield 33, 3) := by decide +kernel
theorem dX6_writeJournal_77 : decode cX6_writeJournal 77 = .ok (.iload_n 3, 1) := by decide +kernel
theorem dX6_writeJournal_78 : decode cX6_writeJournal 78 = .ok (.iaload, 1) := by decide +kernel
theorem dX6_writeJournal_79 : decode cX6_writeJournal 79 = .ok (.bipush 8, 2) := by decide +kernel
theorem dX6_writeJournal_81 : decode cX6_writeJournal 81 = .ok (.imul, 1) := by decide +kernel
theorem dX6_writeJournal_82 : decode cX6_writeJournal 82 = .ok (.invokevirtual 87, 3) := by decide +kernel
theorem dX6_writeJournal_85 : decode cX6_writeJournal 85 = .ok (.ifCond .ne 5, 3) := by decide +kernel
theorem dX6_writeJournal_88 : decode cX6_writeJournal 88 = .ok (.iconst 0, 1) := by decide +kernel
theorem dX6_writeJournal_89 : decode cX6_writeJournal 89 = .ok (.ireturn, 1) := by decide +kernel
theorem dX6_writeJournal_90 : decode cX6_writeJournal 90 = .ok (.iinc 3 1, 3) := by decide +kernel
theorem dX6_writeJournal_93 : decode cX6_writeJournal 93 = .ok (.goto (-36), 3) := by decide +kernel
theorem dX6_writeJournal_96 : decode cX6_writeJournal 96 = .ok (.aload_n 0, 1) := by decide +kernel
theorem dX6_writeJournal_97 : decode cX6_writeJournal 97 = .ok (.getfield 37, 3) := by decide +kernel
theorem dX6_writeJournal_100 : decode cX6_writeJournal 100 = .ok (.lconst 0, 1) := by decide +kernel
theorem dX6_writeJournal_101 : decode cX6_writeJournal 101 = .ok (.invokestatic 98, 3) := by decide +kernel
theorem dX6_writeJournal_104 : decode cX6_writeJournal 104 = .ok (.aload_n 0, 1) := by decide +kernel
theorem dX6_writeJournal_105 : decode cX6_writeJournal 105 = .ok (.getfield 15, 3) := by decide +kernel
theorem dX6_writeJournal_108 : decode cX6_writeJournal 108 = .ok (.iload_n 2, 1) := by decide +kernel
theorem dX6_writeJournal_109 : decode cX6_writeJournal 109 = .ok (.iload_n 1, 1) := by decide +kernel
theorem dX6_writeJournal_110 : decode cX6_writeJournal 110 = .ok (.iadd, 1) := by decide +kernel
theorem dX6_writeJournal_111 : decode cX6_writeJournal 111 = .ok (.aload_n 0, 1) := by decide +kernel
theorem dX6_writeJournal_112 : decode cX6_writeJournal 112 = .ok (.getfield 37, 3) := by decide +kernel
theorem dX6_writeJournal_115 : decode cX6_writeJournal 115 = .ok (.iconst 0, 1) := by decide +kernel
theorem dX6_writeJournal_116 : decode cX6_writeJournal 116 = .ok (.invokevirtual 87, 3) := by decide +kernel
theorem dX6_writeJournal_119 : decode cX6_writeJournal 119 = .ok (.ireturn, 1) := by decide +kernel
theorem dX6_forgetAll_0 : decode cX6_forgetAll 0 = .ok (.iconst 0, 1) := by decide +kernel
theorem dX6_forgetAll_1 : decode cX6_forgetAll 1 = .ok (.istore_n 1, 1) := by decide +kernel
theorem dX6_forgetAll_2 : decode cX6_forgetAll 2 = .ok (.iload_n 1, 1) := by decide +kernel
theorem dX6_forgetAll_3 : decode cX6_forgetAll 3 = .ok (.aload_n 0, 1) := by decide +kernel
theorem dX6_forgetAll_4 : decode cX6_forgetAll 4 = .ok (.getfield 29, 3) := by decide +kernel
theorem dX6_forgetAll_7 : decode cX6_forgetAll 7 = .ok (.arraylength, 1) := by decide +kernel
theorem dX6_forgetAll_8 : decode cX6_forgetAll 8 = .ok (.if_icmp .ge 16, 3) := by decide +kernel
theorem dX6_forgetAll_11 : decode cX6_forgetAll 11 = .ok (.aload_n 0, 1) := by decide +kernel
theorem dX6_forgetAll_12 : decode cX6_forgetAll 12 = .ok (.getfield 29, 3) := by decide +kernel
theorem dX6_forgetAll_15 : decode cX6_forgetAll 15 = .ok (.iload_n 1, 1) := by decide +kernel
theorem dX6_forgetAll_16 : decode cX6_forgetAll 16 = .ok (.iconst 0, 1) := by decide +kernel
theorem dX6_forgetAll_17 : decode cX6_forgetAll 17 = .ok (.bastore, 1) := by decide +kernel
theorem dX6_forgetAll_18 : decode cX6_forgetAll 18 = .ok (.iinc 1 1, 3) := by decide +kernel
theorem dX6_forgetAll_21 : decode cX6_forgetAll 21 = .ok (.goto (-19), 3) := by decide +kernel
theorem dX6_forgetAll_24 : decode cX6_forgetAll 24 = .ok (.aload_n 0, 1) := by decide +kernel
theorem dX6_forgetAll_25 : decode cX6_forgetAll 25 = .ok (.iconst 0, 1) := by decide +kernel
theorem dX6_forgetAll_26 : decode cX6_forgetAll 26 = .ok (.putfield 55, 3) := by decide +kernel
theorem dX6_forgetAll_29 : decode cX6_forgetAll 29 = .ok (.return_, 1) := by decide +kernel
theorem dX6_commitOver_0 : decode cX6_commitOver 0 = .ok (.aload_n 0, 1) := by decide +kernel
theorem dX6_commitOver_1 : decode cX6_commitOver 1 = .ok (.getfield 9, 3) := by decide +kernel
theorem dX6_commitOver_4 : decode cX6_commitOver 4 = .ok (.getfield 73, 3) := by decide +kernel
theorem dX6_commitOver_7 : decode cX6_commitOver 7 = .ok (.ifCond .ne 5, 3) := by decide +kernel
theorem dX6_commitOver_10 : decode cX6_commitOver 10 = .ok (.iconst 0, 1) := by decide +kernel
theorem dX6_commitOver_11 : decode cX6_commitOver 11 = .ok (.ireturn, 1) := by decide +kernel
theorem dX6_commitOver_12 : decode cX6_commitOver 12 = .ok (.aload_n 0, 1) := by decide +kernel
theorem dX6_commitOver_13 : decode cX6_commitOver 13 = .ok (.getfield 55, 3) := by decide +kernel
theorem dX6_commitOver_16 : decode cX6_commitOver 16 = .ok (.iload_n 1, 1) := by decide +kernel
theorem dX6_commitOver_17 : decode cX6_commitOver 17 = .ok (.if_icmp .gt 5, 3) := by decide +kernel
theorem dX6_commitOver_20 : decode cX6_commitOver 20 = .ok (.iconst 1, 1) := by decide +kernel
theorem dX6_commitOver_21 : decode cX6_commitOver 21 = .ok (.ireturn, 1) := by decide +kernel
theorem dX6_commitOver_22 : decode cX6_commitOver 22 = .ok (.iconst 0, 1) := by decide +kernel
theorem dX6_commitOver_23 : decode cX6_commitOver 23 = .ok (.istore_n 2, 1) := by decide +kernel
theorem dX6_commitOver_24 : decode cX6_commitOver 24 = .ok (.iconst 0, 1) := by decide +kernel
theorem dX6_commitOver_25 : decode cX6_commitOver 25 = .ok (.istore_n 3, 1) := by decide +kernel
theorem dX6_commitOver_26 : decode cX6_commitOver 26 = .ok (.iload_n 3, 1) := by decide +kernel
theorem dX6_commitOver_27 : decode cX6_commitOver 27 = .ok (.aload_n 0, 1) := by decide +kernel
theorem dX6_commitOver_28 : decode cX6_commitOver 28 = .ok (.getfield 29, 3) := by decide +kernel
theorem dX6_commitOver_31 : decode cX6_commitOver 31 = .ok (.arraylength, 1) := by decide +kernel
theorem dX6_commitOver_32 : decode cX6_commitOver 32 = .ok (.if_icmp .ge 37, 3) := by decide +kernel
theorem dX6_commitOver_35 : decode cX6_commitOver 35 = .ok (.aload_n 0, 1) := by decide +kernel
theorem dX6_commitOver_36 : decode cX6_commitOver 36 = .ok (.getfield 29, 3) := by decide +kernel
theorem dX6_commitOver_39 : decode cX6_commitOver 39 = .ok (.iload_n 3, 1) := by decide +kernel
theorem dX6_commitOver_40 : decode cX6_commitOver 40 = .ok (.baload, 1) := by decide +kernel
theorem dX6_commitOver_41 : decode cX6_commitOver 41 = .ok (.ifCond .eq 22, 3) := by decide +kernel
theorem dX6_commitOver_44 : decode cX6_commitOver 44 = .ok (.iload_n 2, 1) := by decide +kernel
theorem dX6_commitOver_45 : decode cX6_commitOver 45 = .ok (.aload_n 0, 1) := by decide +kernel
theorem dX6_commitOver_46 : decode cX6_commitOver 46 = .ok (.getfield 33, 3) := by decide +kernel
theorem dX6_commitOver_49 : decode cX6_commitOver 49 = .ok (.arraylength, 1) := by decide +kernel
theorem dX6_commitOver_50 : decode cX6_commitOver 50 = .ok (.if_icmp .ge 13, 3) := by decide +kernel
theorem dX6_commitOver_53 : decode cX6_commitOver 53 = .ok (.aload_n 0, 1) := by decide +kernel
theorem dX6_commitOver_54 : decode cX6_commitOver 54 = .ok (.getfield 33, 3) := by decide +kernel
theorem dX6_commitOver_57 : decode cX6_commitOver 57 = .ok (.iload_n 2, 1) := by decide +kernel
theorem dX6_commitOver_58 : decode cX6_commitOver 58 = .ok (.iload_n 3, 1) := by decide +kernel
theorem dX6_commitOver_59 : decode cX6_commitOver 59 = .ok (.iastore, 1) := by decide +kernel
theorem dX6_commitOver_60 : decode cX6_commitOver 60 = .ok (.iinc 2 1, 3) := by decide +kernel
theorem dX6_commitOver_63 : decode cX6_commitOver 63 = .ok (.iinc 3 1, 3) := by decide +kernel
theorem dX6_commitOver_66 : decode cX6_commitOver 66 = .ok (.goto (-40), 3) := by decide +kernel
theorem dX6_commitOver_69 : decode cX6_commitOver 69 = .ok (.aload_n 0, 1) := by decide +kernel
theorem dX6_commitOver_70 : decode cX6_commitOver 70 = .ok (.iload_n 2, 1) := by decide +kernel
theorem dX6_commitOver_71 : decode cX6_commitOver 71 = .ok (.invokevirtual 77, 3) := by decide +kernel
theorem dX6_commitOver_74 : decode cX6_commitOver 74 = .ok (.ifCond .ne 5, 3) := by decide +kernel
theorem dX6_commitOver_77 : decode cX6_commitOver 77 = .ok (.iconst 0, 1) := by decide +kernel
theorem dX6_commitOver_78 : decode cX6_commitOver 78 = .ok (.ireturn, 1) := by decide +kernel
theorem dX6_commitOver_79 : decode cX6_commitOver 79 = .ok (.aload_n 0, 1) := by decide +kernel
theorem dX6_commitOver_80 : decode cX6_commitOver 80 = .ok (.iconst 1, 1) := by decide +kernel
theorem dX6_commitOver_81 : decode cX6_commitOver 81 = .ok (.putfield 81, 3) := by decide +kernel
theorem dX6_commitOver_84 : decode cX6_commitOver 84 = .ok (.aload_n 0, 1) := by decide +kernel
theorem dX6_commitOver_85 : decode cX6_commitOver 85 = .ok (.dup, 1) := by decide +kernel
theorem dX6_commitOver_86 : decode cX6_commitOver 86 = .ok (.getfield 84, 3) := by decide +kernel
theorem dX6_commitOver_89 : decode cX6_commitOver 89 = .ok (.iconst 1, 1) := by decide +kernel
theorem dX6_commitOver_90 : decode cX6_commitOver 90 = .ok (.iadd, 1) := by decide +kernel
theorem dX6_commitOver_91 : decode cX6_commitOver 91 = .ok (.putfield 84, 3) := by decide +kernel
theorem dX6_commitOver_94 : decode cX6_commitOver 94 = .ok (.iconst 0, 1) := by decide +kernel
theorem dX6_commitOver_95 : decode cX6_commitOver 95 = .ok (.istore_n 3, 1) := by decide +kernel
theorem dX6_commitOver_96 : decode cX6_commitOver 96 = .ok (.iload_n 3, 1) := by decide +kernel
theorem dX6_commitOver_97 : decode cX6_commitOver 97 = .ok (.iload_n 2, 1) := by decide +kernel
theorem dX6_commitOver_98 : decode cX6_commitOver 98 = .ok (.if_icmp .ge 40, 3) := by decide +kernel
theorem dX6_commitOver_101 : decode cX6_commitOver 101 = .ok (.aload_n 0, 1) := by decide +kernel
theorem dX6_commitOver_102 : decode cX6_commitOver 102 = .ok (.getfield 15, 3) := by decide +kernel
theorem dX6_commitOver_105 : decode cX6_commitOver 105 = .ok (.aload_n 0, 1) := by decide +kernel
theorem dX6_commitOver_106 : decode cX6_commitOver 106 = .ok (.getfield 33, 3) := by decide +kernel
theorem dX6_commitOver_109 : decode cX6_commitOver 109 = .ok (.iload_n 3, 1) := by decide +kernel
theorem dX6_commitOver_110 : decode cX6_commitOver 110 = .ok (.iaload, 1) := by decide +kernel
theorem dX6_commitOver_111 : decode cX6_commitOver 111 = .ok (.aload_n 0, 1) := by decide +kernel
theorem dX6_commitOver_112 : decode cX6_commitOver 112 = .ok (.getfield 25, 3) := by decide +kernel
theorem dX6_commitOver_115 : decode cX6_commitOver 115 = .ok (.aload_n 0, 1) := by decide +kernel
theorem dX6_commitOver_116 : decode cX6_commitOver 116 = .ok (.getfield 33, 3) := by decide +kernel
theorem dX6_commitOver_119 : decode cX6_commitOver 119 = .ok (.iload_n 3, 1) := by decide +kernel
theorem dX6_commitOver_120 : decode cX6_commitOver 120 = .ok (.iaload, 1) := by decide +kernel
theorem dX6_commitOver_121 : decode cX6_commitOver 121 = .ok (.bipush 8, 2) := by decide +kernel
theorem dX6_commitOver_123 : decode cX6_commitOver 123 = .ok (.imul, 1) := by decide +kernel
theorem dX6_commitOver_124 : decode cX6_commitOver 124 = .ok (.invokevirtual 87, 3) := by decide +kernel
theorem dX6_commitOver_127 : decode cX6_commitOver 127 = .ok (.ifCond .ne 5, 3) := by decide +kernel
theorem dX6_commitOver_130 : decode cX6_commitOver 130 = .ok (.iconst 0, 1) := by decide +kernel
theorem dX6_commitOver_131 : decode cX6_commitOver 131 = .ok (.ireturn, 1) := by decide +kernel
theorem dX6_commitOver_132 : decode cX6_commitOver 132 = .ok (.iinc 3 1, 3) := by decide +kernel
theorem dX6_commitOver_135 : decode cX6_commitOver 135 = .ok (.goto (-39), 3) := by decide +kernel
theorem dX6_commitOver_138 : decode cX6_commitOver 138 = .ok (.aload_n 0, 1) := by decide +kernel
theorem dX6_commitOver_139 : decode cX6_commitOver 139 = .ok (.invokevirtual 91, 3) := by decide +kernel
theorem dX6_commitOver_142 : decode cX6_commitOver 142 = .ok (.iconst 1, 1) := by decide +kernel
theorem dX6_commitOver_143 : decode cX6_commitOver 143 = .ok (.ireturn, 1) := by decide +kernel
theorem dX4_isNumber_0 : decode cX4_isNumber 0 = .ok (.iload_n 0, 1) := by decide +kernel
theorem dX4_isNumber_1 : decode cX4_isNumber 1 = .ok (.ifCond .lt 13, 3) := by decide +kernel
theorem dX4_isNumber_4 : decode cX4_isNumber 4 = .ok (.iload_n 0, 1) := by decide +kernel
theorem dX4_isNumber_5 : decode cX4_isNumber 5 = .ok (.bipush 64, 2) := by decide +kernel
theorem dX4_isNumber_7 : decode cX4_isNumber 7 = .ok (.if_icmp .ge 7, 3) := by decide +kernel
theorem dX4_isNumber_10 : decode cX4_isNumber 10 = .ok (.iconst 1, 1) := by decide +kernel
theorem dX4_isNumber_11 : decode cX4_isNumber 11 = .ok (.goto 4, 3) := by decide +kernel
theorem dX4_isNumber_14 : decode cX4_isNumber 14 = .ok (.iconst 0, 1) := by decide +kernel
theorem dX4_isNumber_15 : decode cX4_isNumber 15 = .ok (.ireturn, 1) := by decide +kernel
theorem dX6_word_0 : decode cX6_word 0 = .ok (.iload_n 1, 1) := by decide +kernel
theorem dX6_word_1 : decode cX6_word 1 = .ok (.ifCond .lt 22, 3) := by decide +kernel
theorem dX6_word_4 : decode cX6_word 4 = .ok (.iload_n 1, 1) := by decide +kernel
theorem dX6_word_5 : decode cX6_word 5 = .ok (.aload_n 0, 1) := by decide +kernel
theorem dX6_word_6 : decode cX6_word 6 = .ok (.getfield 29, 3) := by decide +kernel
theorem dX6_word_9 : decode cX6_word 9 = .ok (.arraylength, 1) := by decide +kernel
theorem dX6_word_10 : decode cX6_word 10 = .ok (.if_icmp .ge 13, 3) := by decide +kernel
theorem dX6_word_13 : decode cX6_word 13 = .ok (.iload_n 2, 1) := by decide +kernel
theorem dX6_word_14 : decode cX6_word 14 = .ok (.ifCond .lt 9, 3) := by decide +kernel
theorem dX6_word_17 : decode cX6_word 17 = .ok (.iload_n 2, 1) := by decide +kernel
theorem dX6_word_18 : decode cX6_word 18 = .ok (.bipush 8, 2) := by decide +kernel
theorem dX6_word_20 : decode cX6_word 20 = .ok (.if_icmp .lt 5, 3) := by decide +kernel
theorem dX6_word_23 : decode cX6_word 23 = .ok (.lconst 0, 1) := by decide +kernel
theorem dX6_word_24 : decode cX6_word 24 = .ok (.lreturn, 1) := by decide +kernel
theorem dX6_word_25 : decode cX6_word 25 = .ok (.aload_n 0, 1) := by decide +kernel
theorem dX6_word_26 : decode cX6_word 26 = .ok (.getfield 29, 3) := by decide +kernel
theorem dX6_word_29 : decode cX6_word 29 = .ok (.iload_n 1, 1) := by decide +kernel
theorem dX6_word_30 : decode cX6_word 30 = .ok (.baload, 1) := by decide +kernel
theorem dX6_word_31 : decode cX6_word 31 = .ok (.ifCond .eq 17, 3) := by decide +kernel
theorem dX6_word_34 : decode cX6_word 34 = .ok (.aload_n 0, 1) := by decide +kernel
theorem dX6_word_35 : decode cX6_word 35 = .ok (.getfield 25, 3) := by decide +kernel
theorem dX6_word_38 : decode cX6_word 38 = .ok (.iload_n 1, 1) := by decide +kernel
theorem dX6_word_39 : decode cX6_word 39 = .ok (.bipush 8, 2) := by decide +kernel
theorem dX6_word_41 : decode cX6_word 41 = .ok (.imul, 1) := by decide +kernel
theorem dX6_word_42 : decode cX6_word 42 = .ok (.iload_n 2, 1) := by decide +kernel
theorem dX6_word_43 : decode cX6_word 43 = .ok (.iadd, 1) := by decide +kernel
theorem dX6_word_44 : decode cX6_word 44 = .ok (.laload, 1) := by decide +kernel
theorem dX6_word_45 : decode cX6_word 45 = .ok (.goto 21, 3) := by decide +kernel
theorem dX6_word_48 : decode cX6_word 48 = .ok (.aload_n 0, 1) := by decide +kernel
theorem dX6_word_49 : decode cX6_word 49 = .ok (.getfield 9, 3) := by decide +kernel
theorem dX6_word_52 : decode cX6_word 52 = .ok (.getfield 40, 3) := by decide +kernel
theorem dX6_word_55 : decode cX6_word 55 = .ok (.aload_n 0, 1) := by decide +kernel
theorem dX6_word_56 : decode cX6_word 56 = .ok (.getfield 15, 3) := by decide +kernel
theorem dX6_word_59 : decode cX6_word 59 = .ok (.iload_n 1, 1) := by decide +kernel
theorem dX6_word_60 : decode cX6_word 60 = .ok (.invokevirtual 43, 3) := by decide +kernel
theorem dX6_word_63 : decode cX6_word 63 = .ok (.iload_n 2, 1) := by decide +kernel
theorem dX6_word_64 : decode cX6_word 64 = .ok (.iadd, 1) := by decide +kernel
theorem dX6_word_65 : decode cX6_word 65 = .ok (.laload, 1) := by decide +kernel
theorem dX6_word_66 : decode cX6_word 66 = .ok (.lreturn, 1) := by decide +kernel
theorem dX6_octet_0 : decode cX6_octet 0 = .ok (.aload_n 0, 1) := by decide +kernel
theorem dX6_octet_1 : decode cX6_octet 1 = .ok (.iload_n 1, 1) := by decide +kernel
theorem dX6_octet_2 : decode cX6_octet 2 = .ok (.iload_n 2, 1) := by decide +kernel
theorem dX6_octet_3 : decode cX6_octet 3 = .ok (.bipush 8, 2) := by decide +kernel
theorem dX6_octet_5 : decode cX6_octet 5 = .ok (.idiv, 1) := by decide +kernel
theorem dX6_octet_6 : decode cX6_octet 6 = .ok (.invokevirtual 58, 3) := by decide +kernel
theorem dX6_octet_9 : decode cX6_octet 9 = .ok (.bipush 8, 2) := by decide +kernel
theorem dX6_octet_11 : decode cX6_octet 11 = .ok (.iload_n 2, 1) := by decide +kernel
theorem dX6_octet_12 : decode cX6_octet 12 = .ok (.bipush 8, 2) := by decide +kernel
theorem dX6_octet_14 : decode cX6_octet 14 = .ok (.irem, 1) := by decide +kernel
theorem dX6_octet_15 : decode cX6_octet 15 = .ok (.imul, 1) := by decide +kernel
theorem dX6_octet_16 : decode cX6_octet 16 = .ok (.lushr, 1) := by decide +kernel
theorem dX6_octet_17 : decode cX6_octet 17 = .ok (.l2i, 1) := by decide +kernel
theorem dX6_octet_18 : decode cX6_octet 18 = .ok (.sipush 255, 3) := by decide +kernel
theorem dX6_octet_21 : decode cX6_octet 21 = .ok (.iand, 1) := by decide +kernel
theorem dX6_octet_22 : decode cX6_octet 22 = .ok (.ireturn, 1) := by decide +kernel
theorem dX4_kindOf_0 : decode cX4_kindOf 0 = .ok (.iload_n 1, 1) := by decide +kernel
theorem dX4_kindOf_1 : decode cX4_kindOf 1 = .ok (.invokestatic 19, 3) := by decide +kernel
theorem dX4_kindOf_4 : decode cX4_kindOf 4 = .ok (.ifCond .eq 20, 3) := by decide +kernel
theorem dX4_kindOf_7 : decode cX4_kindOf 7 = .ok (.aload_n 0, 1) := by decide +kernel
theorem dX4_kindOf_8 : decode cX4_kindOf 8 = .ok (.getfield 9, 3) := by decide +kernel
theorem dX4_kindOf_11 : decode cX4_kindOf 11 = .ok (.aload_n 0, 1) := by decide +kernel
theorem dX4_kindOf_12 : decode cX4_kindOf 12 = .ok (.getfield 15, 3) := by decide +kernel
theorem dX4_kindOf_15 : decode cX4_kindOf 15 = .ok (.iload_n 1, 1) := by decide +kernel
theorem dX4_kindOf_16 : decode cX4_kindOf 16 = .ok (.iadd, 1) := by decide +kernel
theorem dX4_kindOf_17 : decode cX4_kindOf 17 = .ok (.iconst 0, 1) := by decide +kernel
theorem dX4_kindOf_18 : decode cX4_kindOf 18 = .ok (.invokevirtual 23, 3) := by decide +kernel
theorem dX4_kindOf_21 : decode cX4_kindOf 21 = .ok (.goto 4, 3) := by decide +kernel
theorem dX4_kindOf_24 : decode cX4_kindOf 24 = .ok (.iconst 0, 1) := by decide +kernel
theorem dX4_kindOf_25 : decode cX4_kindOf 25 = .ok (.ireturn, 1) := by decide +kernel
theorem dX3_isNameByte_0 : decode cX3_isNameByte 0 = .ok (.iload_n 0, 1) := by decide +kernel
theorem dX3_isNameByte_1 : decode cX3_isNameByte 1 = .ok (.bipush 97, 2) := by decide +kernel
theorem dX3_isNameByte_3 : decode cX3_isNameByte 3 = .ok (.if_icmp .lt 9, 3) := by decide +kernel
theorem dX3_isNameByte_6 : decode cX3_isNameByte 6 = .ok (.iload_n 0, 1) := by decide +kernel
theorem dX3_isNameByte_7 : decode cX3_isNameByte 7 = .ok (.bipush 122, 2) := by decide +kernel
theorem dX3_isNameByte_9 : decode cX3_isNameByte 9 = .ok (.if_icmp .le 33, 3) := by decide +kernel
theorem dX3_isNameByte_12 : decode cX3_isNameByte 12 = .ok (.iload_n 0, 1) := by decide +kernel
theorem dX3_isNameByte_13 : decode cX3_isNameByte 13 = .ok (.bipush 48, 2) := by decide +kernel
theorem dX3_isNameByte_15 : decode cX3_isNameByte 15 = .ok (.if_icmp .lt 9, 3) := by decide +kernel
theorem dX3_isNameByte_18 : decode cX3_isNameByte 18 = .ok (.iload_n 0, 1) := by decide +kernel
theorem dX3_isNameByte_19 : decode cX3_isNameByte 19 = .ok (.bipush 57, 2) := by decide +kernel
theorem dX3_isNameByte_21 : decode cX3_isNameByte 21 = .ok (.if_icmp .le 21, 3) := by decide +kernel
theorem dX3_isNameByte_24 : decode cX3_isNameByte 24 = .ok (.iload_n 0, 1) := by decide +kernel
theorem dX3_isNameByte_25 : decode cX3_isNameByte 25 = .ok (.bipush 45, 2) := by decide +kernel
theorem dX3_isNameByte_27 : decode cX3_isNameByte 27 = .ok (.if_icmp .eq 15, 3) := by decide +kernel
theorem dX3_isNameByte_30 : decode cX3_isNameByte 30 = .ok (.iload_n 0, 1) := by decide +kernel
theorem dX3_isNameByte_31 : decode cX3_isNameByte 31 = .ok (.bipush 95, 2) := by decide +kernel
theorem dX3_isNameByte_33 : decode cX3_isNameByte 33 = .ok (.if_icmp .eq 9, 3) := by decide +kernel
theorem dX3_isNameByte_36 : decode cX3_isNameByte 36 = .ok (.iload_n 0, 1) := by decide +kernel
theorem dX3_isNameByte_37 : decode cX3_isNameByte 37 = .ok (.bipush 46, 2) := by decide +kernel
theorem dX3_isNameByte_39 : decode cX3_isNameByte 39 = .ok (.if_icmp .ne 7, 3) := by decide +kernel
theorem dX3_isNameByte_42 : decode cX3_isNameByte 42 = .ok (.iconst 1, 1) := by decide +kernel
theorem dX3_isNameByte_43 : decode cX3_isNameByte 43 = .ok (.goto 4, 3) := by decide +kernel
theorem dX3_isNameByte_46 : decode cX3_isNameByte 46 = .ok (.iconst 0, 1) := by decide +kernel
theorem dX3_isNameByte_47 : decode cX3_isNameByte 47 = .ok (.ireturn, 1) := by decide +kernel
theorem dX3_isName_0 : decode cX3_isName 0 = .ok (.lload_n 0, 1) := by decide +kernel
theorem dX3_isName_1 : decode cX3_isName 1 = .ok (.lstore_n 2, 1) := by decide +kernel
theorem dX3_isName_2 : decode cX3_isName 2 = .ok (.iconst 0, 1) := by decide +kernel
theorem dX3_isName_3 : decode cX3_isName 3 = .ok (.istore 4, 2) := by decide +kernel
theorem dX3_isName_5 : decode cX3_isName 5 = .ok (.iload 4, 2) := by decide +kernel
theorem dX3_isName_7 : decode cX3_isName 7 = .ok (.bipush 8, 2) := by decide +kernel
theorem dX3_isName_9 : decode cX3_isName 9 = .ok (.if_icmp .ge 34, 3) := by decide +kernel
theorem dX3_isName_12 : decode cX3_isName 12 = .ok (.lload_n 2, 1) := by decide +kernel
theorem dX3_isName_13 : decode cX3_isName 13 = .ok (.lconst 0, 1) := by decide +kernel
theorem dX3_isName_14 : decode cX3_isName 14 = .ok (.lcmp, 1) := by decide +kernel
theorem dX3_isName_15 : decode cX3_isName 15 = .ok (.ifCond .eq 28, 3) := by decide +kernel
theorem dX3_isName_18 : decode cX3_isName 18 = .ok (.lload_n 2, 1) := by decide +kernel
theorem dX3_isName_19 : decode cX3_isName 19 = .ok (.ldc2_w 31, 3) := by decide +kernel
theorem dX3_isName_22 : decode cX3_isName 22 = .ok (.land, 1) := by decide +kernel
theorem dX3_isName_23 : decode cX3_isName 23 = .ok (.l2i, 1) := by decide +kernel
theorem dX3_isName_24 : decode cX3_isName 24 = .ok (.invokestatic 33, 3) := by decide +kernel
theorem dX3_isName_27 : decode cX3_isName 27 = .ok (.ifCond .ne 5, 3) := by decide +kernel
theorem dX3_isName_30 : decode cX3_isName 30 = .ok (.iconst 0, 1) := by decide +kernel
theorem dX3_isName_31 : decode cX3_isName 31 = .ok (.ireturn, 1) := by decide +kernel
theorem dX3_isName_32 : decode cX3_isName 32 = .ok (.lload_n 2, 1) := by decide +kernel
theorem dX3_isName_33 : decode cX3_isName 33 = .ok (.bipush 8, 2) := by decide +kernel
theorem dX3_isName_35 : decode cX3_isName 35 = .ok (.lushr, 1) := by decide +kernel
theorem dX3_isName_36 : decode cX3_isName 36 = .ok (.lstore_n 2, 1) := by decide +kernel
theorem dX3_isName_37 : decode cX3_isName 37 = .ok (.iinc 4 1, 3) := by decide +kernel
theorem dX3_isName_40 : decode cX3_isName 40 = .ok (.goto (-35), 3) := by decide +kernel
theorem dX3_isName_43 : decode cX3_isName 43 = .ok (.lload_n 0, 1) := by decide +kernel
theorem dX3_isName_44 : decode cX3_isName 44 = .ok (.lconst 0, 1) := by decide +kernel
theorem dX3_isName_45 : decode cX3_isName 45 = .ok (.lcmp, 1) := by decide +kernel
theorem dX3_isName_46 : decode cX3_isName 46 = .ok (.ifCond .eq 7, 3) := by decide +kernel
theorem dX3_isName_49 : decode cX3_isName 49 = .ok (.iconst 1, 1) := by decide +kernel
theorem dX3_isName_50 : decode cX3_isName 50 = .ok (.goto 4, 3) := by decide +kernel
theorem dX3_isName_53 : decode cX3_isName 53 = .ok (.iconst 0, 1) := by decide +kernel
theorem dX3_isName_54 : decode cX3_isName 54 = .ok (.ireturn, 1) := by decide +kernel
theorem dX4_may_0 : decode cX4_may 0 = .ok (.iload_n 3, 1) := by decide +kernel
theorem dX4_may_1 : decode cX4_may 1 = .ok (.ifCond .ne 5, 3) := by decide +kernel
theorem dX4_may_4 : decode cX4_may 4 = .ok (.iconst 1, 1) := by decide +kernel
theorem dX4_may_5 : decode cX4_may 5 = .ok (.ireturn, 1) := by decide +kernel
theorem dX4_may_6 : decode cX4_may 6 = .ok (.aload_n 0, 1) := by decide +kernel
theorem dX4_may_7 : decode cX4_may 7 = .ok (.getfield 9, 3) := by decide +kernel
theorem dX4_may_10 : decode cX4_may 10 = .ok (.aload_n 0, 1) := by decide +kernel
theorem dX4_may_11 : decode cX4_may 11 = .ok (.getfield 15, 3) := by decide +kernel
theorem dX4_may_14 : decode cX4_may 14 = .ok (.iload_n 1, 1) := by decide +kernel
theorem dX4_may_15 : decode cX4_may 15 = .ok (.iadd, 1) := by decide +kernel
theorem dX4_may_16 : decode cX4_may 16 = .ok (.iconst 0, 1) := by decide +kernel
theorem dX4_may_17 : decode cX4_may 17 = .ok (.invokevirtual 37, 3) := by decide +kernel
theorem dX4_may_20 : decode cX4_may 20 = .ok (.lstore 4, 2) := by decide +kernel
theorem dX4_may_22 : decode cX4_may 22 = .ok (.lload 4, 2) := by decide +kernel
theorem dX4_may_24 : decode cX4_may 24 = .ok (.bipush 8, 2) := by decide +kernel
theorem dX4_may_26 : decode cX4_may 26 = .ok (.lushr, 1) := by decide +kernel
theorem dX4_may_27 : decode cX4_may 27 = .ok (.l2i, 1) := by decide +kernel
theorem dX4_may_28 : decode cX4_may 28 = .ok (.sipush 255, 3) := by decide +kernel
theorem dX4_may_31 : decode cX4_may 31 = .ok (.iand, 1) := by decide +kernel
theorem dX4_may_32 : decode cX4_may 32 = .ok (.istore 6, 2) := by decide +kernel
theorem dX4_may_34 : decode cX4_may 34 = .ok (.lload 4, 2) := by decide +kernel
theorem dX4_may_36 : decode cX4_may 36 = .ok (.bipush 16, 2) := by decide +kernel
theorem dX4_may_38 : decode cX4_may 38 = .ok (.lushr, 1) := by decide +kernel
theorem dX4_may_39 : decode cX4_may 39 = .ok (.l2i, 1) := by decide +kernel
theorem dX4_may_40 : decode cX4_may 40 = .ok (.sipush 255, 3) := by decide +kernel
theorem dX4_may_43 : decode cX4_may 43 = .ok (.iand, 1) := by decide +kernel
theorem dX4_may_44 : decode cX4_may 44 = .ok (.istore 7, 2) := by decide +kernel
theorem dX4_may_46 : decode cX4_may 46 = .ok (.iload_n 3, 1) := by decide +kernel
theorem dX4_may_47 : decode cX4_may 47 = .ok (.iload 6, 2) := by decide +kernel
theorem dX4_may_49 : decode cX4_may 49 = .ok (.if_icmp .ne 10, 3) := by decide +kernel
theorem dX4_may_52 : decode cX4_may 52 = .ok (.iload 7, 2) := by decide +kernel
theorem dX4_may_54 : decode cX4_may 54 = .ok (.iconst 3, 1) := by decide +kernel
theorem dX4_may_55 : decode cX4_may 55 = .ok (.ishr, 1) := by decide +kernel
theorem dX4_may_56 : decode cX4_may 56 = .ok (.goto 5, 3) := by decide +kernel
theorem dX4_may_59 : decode cX4_may 59 = .ok (.iload 7, 2) := by decide +kernel
theorem dX4_may_61 : decode cX4_may 61 = .ok (.iload_n 2, 1) := by decide +kernel
theorem dX4_may_62 : decode cX4_may 62 = .ok (.iand, 1) := by decide +kernel
theorem dX4_may_63 : decode cX4_may 63 = .ok (.iload_n 2, 1) := by decide +kernel
theorem dX4_may_64 : decode cX4_may 64 = .ok (.if_icmp .ne 7, 3) := by decide +kernel
theorem dX4_may_67 : decode cX4_may 67 = .ok (.iconst 1, 1) := by decide +kernel
theorem dX4_may_68 : decode cX4_may 68 = .ok (.goto 4, 3) := by decide +kernel
theorem dX4_may_71 : decode cX4_may 71 = .ok (.iconst 0, 1) := by decide +kernel
theorem dX4_may_72 : decode cX4_may 72 = .ok (.ireturn, 1) := by decide +kernel
theorem dX10_refusalToGoBy_0 : decode cX10_refusalToGoBy 0 = .ok (.aload_n 0, 1) := by decide +kernel
theorem dX10_refusalToGoBy_1 : decode cX10_refusalToGoBy 1 = .ok (.getfield 71, 3) := by decide +kernel
theorem dX10_refusalToGoBy_4 : decode cX10_refusalToGoBy 4 = .ok (.iload_n 1, 1) := by decide +kernel
theorem dX10_refusalToGoBy_5 : decode cX10_refusalToGoBy 5 = .ok (.invokevirtual 173, 3) := by decide +kernel
theorem dX10_refusalToGoBy_8 : decode cX10_refusalToGoBy 8 = .ok (.iconst 2, 1) := by decide +kernel
theorem dX10_refusalToGoBy_9 : decode cX10_refusalToGoBy 9 = .ok (.if_icmp .eq 6, 3) := by decide +kernel
theorem dX10_refusalToGoBy_12 : decode cX10_refusalToGoBy 12 = .ok (.bipush (-10), 2) := by decide +kernel
theorem dX10_refusalToGoBy_14 : decode cX10_refusalToGoBy 14 = .ok (.ireturn, 1) := by decide +kernel
theorem dX10_refusalToGoBy_15 : decode cX10_refusalToGoBy 15 = .ok (.lload_n 2, 1) := by decide +kernel
theorem dX10_refusalToGoBy_16 : decode cX10_refusalToGoBy 16 = .ok (.invokestatic 206, 3) := by decide +kernel
theorem dX10_refusalToGoBy_19 : decode cX10_refusalToGoBy 19 = .ok (.ifCond .ne 6, 3) := by decide +kernel
theorem dX10_refusalToGoBy_22 : decode cX10_refusalToGoBy 22 = .ok (.bipush (-11), 2) := by decide +kernel
theorem dX10_refusalToGoBy_24 : decode cX10_refusalToGoBy 24 = .ok (.ireturn, 1) := by decide +kernel
theorem dX10_refusalToGoBy_25 : decode cX10_refusalToGoBy 25 = .ok (.aload_n 0, 1) := by decide +kernel
theorem dX10_refusalToGoBy_26 : decode cX10_refusalToGoBy 26 = .ok (.getfield 71, 3) := by decide +kernel
theorem dX10_refusalToGoBy_29 : decode cX10_refusalToGoBy 29 = .ok (.iload_n 1, 1) := by decide +kernel
theorem dX10_refusalToGoBy_30 : decode cX10_refusalToGoBy 30 = .ok (.iconst 3, 1) := by decide +kernel
theorem dX10_refusalToGoBy_31 : decode cX10_refusalToGoBy 31 = .ok (.aload_n 0, 1) := by decide +kernel
theorem dX10_refusalToGoBy_32 : decode cX10_refusalToGoBy 32 = .ok (.getfield 113, 3) := by decide +kernel
theorem dX10_refusalToGoBy_35 : decode cX10_refusalToGoBy 35 = .ok (.invokevirtual 176, 3) := by decide +kernel
theorem dX10_refusalToGoBy_38 : decode cX10_refusalToGoBy 38 = .ok (.ifCond .eq 7, 3) := by decide +kernel
theorem dX10_refusalToGoBy_41 : decode cX10_refusalToGoBy 41 = .ok (.iconst 0, 1) := by decide +kernel
theorem dX10_refusalToGoBy_42 : decode cX10_refusalToGoBy 42 = .ok (.goto 5, 3) := by decide +kernel
theorem dX10_refusalToGoBy_45 : decode cX10_refusalToGoBy 45 = .ok (.bipush (-20), 2) := by decide +kernel
theorem dX10_refusalToGoBy_47 : decode cX10_refusalToGoBy 47 = .ok (.ireturn, 1) := by decide +kernel
theorem dX4_sectorOf_0 : decode cX4_sectorOf 0 = .ok (.aload_n 0, 1) := by decide +kernel
theorem dX4_sectorOf_1 : decode cX4_sectorOf 1 = .ok (.getfield 15, 3) := by decide +kernel
theorem dX4_sectorOf_4 : decode cX4_sectorOf 4 = .ok (.iload_n 1, 1) := by decide +kernel
theorem dX4_sectorOf_5 : decode cX4_sectorOf 5 = .ok (.iadd, 1) := by decide +kernel
theorem dX4_sectorOf_6 : decode cX4_sectorOf 6 = .ok (.ireturn, 1) := by decide +kernel
theorem dX6_half_0 : decode cX6_half 0 = .ok (.iload_n 1, 1) := by decide +kernel
theorem dX6_half_1 : decode cX6_half 1 = .ok (.ifCond .ne 7, 3) := by decide +kernel
theorem dX6_half_4 : decode cX6_half 4 = .ok (.iconst 0, 1) := by decide +kernel
theorem dX6_half_5 : decode cX6_half 5 = .ok (.goto 22, 3) := by decide +kernel
theorem dX6_half_8 : decode cX6_half 8 = .ok (.aload_n 0, 1) := by decide +kernel
theorem dX6_half_9 : decode cX6_half 9 = .ok (.iload_n 1, 1) := by decide +kernel
theorem dX6_half_10 : decode cX6_half 10 = .ok (.iload_n 2, 1) := by decide +kernel
theorem dX6_half_11 : decode cX6_half 11 = .ok (.iconst 4, 1) := by decide +kernel
theorem dX6_half_12 : decode cX6_half 12 = .ok (.idiv, 1) := by decide +kernel
theorem dX6_half_13 : decode cX6_half 13 = .ok (.invokevirtual 58, 3) := by decide +kernel
theorem dX6_half_16 : decode cX6_half 16 = .ok (.bipush 16, 2) := by decide +kernel
theorem dX6_half_18 : decode cX6_half 18 = .ok (.iload_n 2, 1) := by decide +kernel
theorem dX6_half_19 : decode cX6_half 19 = .ok (.iconst 4, 1) := by decide +kernel
theorem dX6_half_20 : decode cX6_half 20 = .ok (.irem, 1) := by decide +kernel
theorem dX6_half_21 : decode cX6_half 21 = .ok (.imul, 1) := by decide +kernel
theorem dX6_half_22 : decode cX6_half 22 = .ok (.lushr, 1) := by decide +kernel
theorem dX6_half_23 : decode cX6_half 23 = .ok (.l2i, 1) := by decide +kernel
theorem dX6_half_24 : decode cX6_half 24 = .ok (.ldc 62, 2) := by decide +kernel
theorem dX6_half_26 : decode cX6_half 26 = .ok (.iand, 1) := by decide +kernel
theorem dX6_half_27 : decode cX6_half 27 = .ok (.ireturn, 1) := by decide +kernel
theorem dX3_blockAt_0 : decode cX3_blockAt 0 = .ok (.aload_n 0, 1) := by decide +kernel
theorem dX3_blockAt_1 : decode cX3_blockAt 1 = .ok (.getfield 9, 3) := by decide +kernel
theorem dX3_blockAt_4 : decode cX3_blockAt 4 = .ok (.aload_n 0, 1) := by decide +kernel
theorem dX3_blockAt_5 : decode cX3_blockAt 5 = .ok (.getfield 19, 3) := by decide +kernel
theorem dX3_blockAt_8 : decode cX3_blockAt 8 = .ok (.iload_n 1, 1) := by decide +kernel
theorem dX3_blockAt_9 : decode cX3_blockAt 9 = .ok (.invokevirtual 37, 3) := by decide +kernel
theorem dX3_blockAt_12 : decode cX3_blockAt 12 = .ok (.iconst 4, 1) := by decide +kernel
theorem dX3_blockAt_13 : decode cX3_blockAt 13 = .ok (.iload_n 2, 1) := by decide +kernel
theorem dX3_blockAt_14 : decode cX3_blockAt 14 = .ok (.iadd, 1) := by decide +kernel
theorem dX3_blockAt_15 : decode cX3_blockAt 15 = .ok (.invokevirtual 43, 3) := by decide +kernel
theorem dX3_blockAt_18 : decode cX3_blockAt 18 = .ok (.ireturn, 1) := by decide +kernel
theorem dX3_seek_0 : decode cX3_seek 0 = .ok (.iconst 0, 1) := by decide +kernel
theorem dX3_seek_1 : decode cX3_seek 1 = .ok (.istore 4, 2) := by decide +kernel
theorem dX3_seek_3 : decode cX3_seek 3 = .ok (.iload 4, 2) := by decide +kernel
theorem dX3_seek_5 : decode cX3_seek 5 = .ok (.bipush 12, 2) := by decide +kernel
theorem dX3_seek_7 : decode cX3_seek 7 = .ok (.if_icmp .ge 64, 3) := by decide +kernel
theorem dX3_seek_10 : decode cX3_seek 10 = .ok (.aload_n 0, 1) := by decide +kernel
theorem dX3_seek_11 : decode cX3_seek 11 = .ok (.iload_n 1, 1) := by decide +kernel
theorem dX3_seek_12 : decode cX3_seek 12 = .ok (.iload 4, 2) := by decide +kernel
theorem dX3_seek_14 : decode cX3_seek 14 = .ok (.invokevirtual 49, 3) := by decide +kernel
theorem dX3_seek_17 : decode cX3_seek 17 = .ok (.istore 5, 2) := by decide +kernel
theorem dX3_seek_19 : decode cX3_seek 19 = .ok (.iload 5, 2) := by decide +kernel
theorem dX3_seek_21 : decode cX3_seek 21 = .ok (.ifCond .ne 5, 3) := by decide +kernel
theorem dX3_seek_24 : decode cX3_seek 24 = .ok (.iconst (-1), 1) := by decide +kernel
theorem dX3_seek_25 : decode cX3_seek 25 = .ok (.ireturn, 1) := by decide +kernel
theorem dX3_seek_26 : decode cX3_seek 26 = .ok (.iconst 0, 1) := by decide +kernel
theorem dX3_seek_27 : decode cX3_seek 27 = .ok (.istore 6, 2) := by decide +kernel
theorem dX3_seek_29 : decode cX3_seek 29 = .ok (.iload 6, 2) := by decide +kernel
theorem dX3_seek_31 : decode cX3_seek 31 = .ok (.iconst 4, 1) := by decide +kernel
theorem dX3_seek_32 : decode cX3_seek 32 = .ok (.if_icmp .ge 33, 3) := by decide +kernel
theorem dX3_seek_35 : decode cX3_seek 35 = .ok (.aload_n 0, 1) := by decide +kernel
theorem dX3_seek_36 : decode cX3_seek 36 = .ok (.getfield 9, 3) := by decide +kernel
theorem dX3_seek_39 : decode cX3_seek 39 = .ok (.iload 5, 2) := by decide +kernel
theorem dX3_seek_41 : decode cX3_seek 41 = .ok (.iload 6, 2) := by decide +kernel
theorem dX3_seek_43 : decode cX3_seek 43 = .ok (.invokevirtual 52, 3) := by decide +kernel
theorem dX3_seek_46 : decode cX3_seek 46 = .ok (.lload_n 2, 1) := by decide +kernel
theorem dX3_seek_47 : decode cX3_seek 47 = .ok (.lcmp, 1) := by decide +kernel
theorem dX3_seek_48 : decode cX3_seek 48 = .ok (.ifCond .ne 11, 3) := by decide +kernel
theorem dX3_seek_51 : decode cX3_seek 51 = .ok (.iconst 4, 1) := by decide +kernel
theorem dX3_seek_52 : decode cX3_seek 52 = .ok (.iload 4, 2) := by decide +kernel
theorem dX3_seek_54 : decode cX3_seek 54 = .ok (.imul, 1) := by decide +kernel
theorem dX3_seek_55 : decode cX3_seek 55 = .ok (.iload 6, 2) := by decide +kernel
theorem dX3_seek_57 : decode cX3_seek 57 = .ok (.iadd, 1) := by decide +kernel
theorem dX3_seek_58 : decode cX3_seek 58 = .ok (.ireturn, 1) := by decide +kernel
theorem dX3_seek_59 : decode cX3_seek 59 = .ok (.iinc 6 1, 3) := by decide +kernel
theorem dX3_seek_62 : decode cX3_seek 62 = .ok (.goto (-33), 3) := by decide +kernel
theorem dX3_seek_65 : decode cX3_seek 65 = .ok (.iinc 4 1, 3) := by decide +kernel
theorem dX3_seek_68 : decode cX3_seek 68 = .ok (.goto (-65), 3) := by decide +kernel
theorem dX3_seek_71 : decode cX3_seek 71 = .ok (.iconst (-1), 1) := by decide +kernel
theorem dX3_seek_72 : decode cX3_seek 72 = .ok (.ireturn, 1) := by decide +kernel
theorem dX10_refusalToAdd_0 : decode cX10_refusalToAdd 0 = .ok (.aload_n 0, 1) := by decide +kernel
theorem dX10_refusalToAdd_1 : decode cX10_refusalToAdd 1 = .ok (.iload_n 1, 1) := by decide +kernel
theorem dX10_refusalToAdd_2 : decode cX10_refusalToAdd 2 = .ok (.lload_n 2, 1) := by decide +kernel
theorem dX10_refusalToAdd_3 : decode cX10_refusalToAdd 3 = .ok (.invokevirtual 145, 3) := by decide +kernel
theorem dX10_refusalToAdd_6 : decode cX10_refusalToAdd 6 = .ok (.istore 4, 2) := by decide +kernel
theorem dX10_refusalToAdd_8 : decode cX10_refusalToAdd 8 = .ok (.iload 4, 2) := by decide +kernel
theorem dX10_refusalToAdd_10 : decode cX10_refusalToAdd 10 = .ok (.ifCond .eq 6, 3) := by decide +kernel
theorem dX10_refusalToAdd_13 : decode cX10_refusalToAdd 13 = .ok (.iload 4, 2) := by decide +kernel
theorem dX10_refusalToAdd_15 : decode cX10_refusalToAdd 15 = .ok (.ireturn, 1) := by decide +kernel
theorem dX10_refusalToAdd_16 : decode cX10_refusalToAdd 16 = .ok (.aload_n 0, 1) := by decide +kernel
theorem dX10_refusalToAdd_17 : decode cX10_refusalToAdd 17 = .ok (.getfield 75, 3) := by decide +kernel
theorem dX10_refusalToAdd_20 : decode cX10_refusalToAdd 20 = .ok (.iload_n 1, 1) := by decide +kernel
theorem dX10_refusalToAdd_21 : decode cX10_refusalToAdd 21 = .ok (.lload_n 2, 1) := by decide +kernel
theorem dX10_refusalToAdd_22 : decode cX10_refusalToAdd 22 = .ok (.invokevirtual 151, 3) := by decide +kernel
theorem dX10_refusalToAdd_25 : decode cX10_refusalToAdd 25 = .ok (.iconst (-1), 1) := by decide +kernel
theorem dX10_refusalToAdd_26 : decode cX10_refusalToAdd 26 = .ok (.if_icmp .ne 7, 3) := by decide +kernel
theorem dX10_refusalToAdd_29 : decode cX10_refusalToAdd 29 = .ok (.iconst 0, 1) := by decide +kernel
theorem dX10_refusalToAdd_30 : decode cX10_refusalToAdd 30 = .ok (.goto 5, 3) := by decide +kernel
theorem dX10_refusalToAdd_33 : decode cX10_refusalToAdd 33 = .ok (.bipush (-13), 2) := by decide +kernel
theorem dX10_refusalToAdd_35 : decode cX10_refusalToAdd 35 = .ok (.ireturn, 1) := by decide +kernel
theorem dX4_lowestFree_0 : decode cX4_lowestFree 0 = .ok (.iconst 0, 1) := by decide +kernel
theorem dX4_lowestFree_1 : decode cX4_lowestFree 1 = .ok (.istore_n 1, 1) := by decide +kernel
theorem dX4_lowestFree_2 : decode cX4_lowestFree 2 = .ok (.iload_n 1, 1) := by decide +kernel
theorem dX4_lowestFree_3 : decode cX4_lowestFree 3 = .ok (.bipush 64, 2) := by decide +kernel
theorem dX4_lowestFree_5 : decode cX4_lowestFree 5 = .ok (.if_icmp .ge 19, 3) := by decide +kernel
theorem dX4_lowestFree_8 : decode cX4_lowestFree 8 = .ok (.aload_n 0, 1) := by decide +kernel
theorem dX4_lowestFree_9 : decode cX4_lowestFree 9 = .ok (.iload_n 1, 1) := by decide +kernel
theorem dX4_lowestFree_10 : decode cX4_lowestFree 10 = .ok (.invokevirtual 29, 3) := by decide +kernel
theorem dX4_lowestFree_13 : decode cX4_lowestFree 13 = .ok (.ifCond .ne 5, 3) := by decide +kernel
theorem dX4_lowestFree_16 : decode cX4_lowestFree 16 = .ok (.iload_n 1, 1) := by decide +kernel
theorem dX4_lowestFree_17 : decode cX4_lowestFree 17 = .ok (.ireturn, 1) := by decide +kernel
theorem dX4_lowestFree_18 : decode cX4_lowestFree 18 = .ok (.iinc 1 1, 3) := by decide +kernel
theorem dX4_lowestFree_21 : decode cX4_lowestFree 21 = .ok (.goto (-19), 3) := by decide +kernel
theorem dX4_lowestFree_24 : decode cX4_lowestFree 24 = .ok (.iconst (-1), 1) := by decide +kernel
theorem dX4_lowestFree_25 : decode cX4_lowestFree 25 = .ok (.ireturn, 1) := by decide +kernel
theorem dJ13_bitCount_95d88_0 : decode cJ13_bitCount_95d88 0 = .ok (.lload_n 0, 1) := by decide +kernel
theorem dJ13_bitCount_95d88_1 : decode cJ13_bitCount_95d88 1 = .ok (.lload_n 0, 1) := by decide +kernel
theorem dJ13_bitCount_95d88_2 : decode cJ13_bitCount_95d88 2 = .ok (.iconst 1, 1) := by decide +kernel
theorem dJ13_bitCount_95d88_3 : decode cJ13_bitCount_95d88 3 = .ok (.lushr, 1) := by decide +kernel
theorem dJ13_bitCount_95d88_4 : decode cJ13_bitCount_95d88 4 = .ok (.ldc2_w 314, 3) := by decide +kernel
theorem dJ13_bitCount_95d88_7 : decode cJ13_bitCount_95d88 7 = .ok (.land, 1) := by decide +kernel
theorem dJ13_bitCount_95d88_8 : decode cJ13_bitCount_95d88 8 = .ok (.lsub, 1) := by decide +kernel
theorem dJ13_bitCount_95d88_9 : decode cJ13_bitCount_95d88 9 = .ok (.lstore_n 0, 1) := by decide +kernel
theorem dJ13_bitCount_95d88_10 : decode cJ13_bitCount_95d88 10 = .ok (.lload_n 0, 1) := by decide +kernel
theorem dJ13_bitCount_95d88_11 : decode cJ13_bitCount_95d88 11 = .ok (.ldc2_w 316, 3) := by decide +kernel
theorem dJ13_bitCount_95d88_14 : decode cJ13_bitCount_95d88 14 = .ok (.land, 1) := by decide +kernel
theorem dJ13_bitCount_95d88_15 : decode cJ13_bitCount_95d88 15 = .ok (.lload_n 0, 1) := by decide +kernel
theorem dJ13_bitCount_95d88_16 : decode cJ13_bitCount_95d88 16 = .ok (.iconst 2, 1) := by decide +kernel
theorem dJ13_bitCount_95d88_17 : decode cJ13_bitCount_95d88 17 = .ok (.lushr, 1) := by decide +kernel
theorem dJ13_bitCount_95d88_18 : decode cJ13_bitCount_95d88 18 = .ok (.ldc2_w 316, 3) := by decide +kernel
theorem dJ13_bitCount_95d88_21 : decode cJ13_bitCount_95d88 21 = .ok (.land, 1) := by decide +kernel
theorem dJ13_bitCount_95d88_22 : decode cJ13_bitCount_95d88 22 = .ok (.ladd, 1) := by decide +kernel
theorem dJ13_bitCount_95d88_23 : decode cJ13_bitCount_95d88 23 = .ok (.lstore_n 0, 1) := by decide +kernel
theorem dJ13_bitCount_95d88_24 : decode cJ13_bitCount_95d88 24 = .ok (.lload_n 0, 1) := by decide +kernel
theorem dJ13_bitCount_95d88_25 : decode cJ13_bitCount_95d88 25 = .ok (.lload_n 0, 1) := by decide +kernel
theorem dJ13_bitCount_95d88_26 : decode cJ13_bitCount_95d88 26 = .ok (.iconst 4, 1) := by decide +kernel
theorem dJ13_bitCount_95d88_27 : decode cJ13_bitCount_95d88 27 = .ok (.lushr, 1) := by decide +kernel
theorem dJ13_bitCount_95d88_28 : decode cJ13_bitCount_95d88 28 = .ok (.ladd, 1) := by decide +kernel
theorem dJ13_bitCount_95d88_29 : decode cJ13_bitCount_95d88 29 = .ok (.ldc2_w 318, 3) := by decide +kernel
theorem dJ13_bitCount_95d88_32 : decode cJ13_bitCount_95d88 32 = .ok (.land, 1) := by decide +kernel
theorem dJ13_bitCount_95d88_33 : decode cJ13_bitCount_95d88 33 = .ok (.lstore_n 0, 1) := by decide +kernel
theorem dJ13_bitCount_95d88_34 : decode cJ13_bitCount_95d88 34 = .ok (.lload_n 0, 1) := by decide +kernel
theorem dJ13_bitCount_95d88_35 : decode cJ13_bitCount_95d88 35 = .ok (.lload_n 0, 1) := by decide +kernel
theorem dJ13_bitCount_95d88_36 : decode cJ13_bitCount_95d88 36 = .ok (.bipush 8, 2) := by decide +kernel
theorem dJ13_bitCount_95d88_38 : decode cJ13_bitCount_95d88 38 = .ok (.lushr, 1) := by decide +kernel
theorem dJ13_bitCount_95d88_39 : decode cJ13_bitCount_95d88 39 = .ok (.ladd, 1) := by decide +kernel
theorem dJ13_bitCount_95d88_40 : decode cJ13_bitCount_95d88 40 = .ok (.lstore_n 0, 1) := by decide +kernel
theorem dJ13_bitCount_95d88_41 : decode cJ13_bitCount_95d88 41 = .ok (.lload_n 0, 1) := by decide +kernel
theorem dJ13_bitCount_95d88_42 : decode cJ13_bitCount_95d88 42 = .ok (.lload_n 0, 1) := by decide +kernel
theorem dJ13_bitCount_95d88_43 : decode cJ13_bitCount_95d88 43 = .ok (.bipush 16, 2) := by decide +kernel
theorem dJ13_bitCount_95d88_45 : decode cJ13_bitCount_95d88 45 = .ok (.lushr, 1) := by decide +kernel
theorem dJ13_bitCount_95d88_46 : decode cJ13_bitCount_95d88 46 = .ok (.ladd, 1) := by decide +kernel
theorem dJ13_bitCount_95d88_47 : decode cJ13_bitCount_95d88 47 = .ok (.lstore_n 0, 1) := by decide +kernel
theorem dJ13_bitCount_95d88_48 : decode cJ13_bitCount_95d88 48 = .ok (.lload_n 0, 1) := by decide +kernel
theorem dJ13_bitCount_95d88_49 : decode cJ13_bitCount_95d88 49 = .ok (.lload_n 0, 1) := by decide +kernel
theorem dJ13_bitCount_95d88_50 : decode cJ13_bitCount_95d88 50 = .ok (.bipush 32, 2) := by decide +kernel
theorem dJ13_bitCount_95d88_52 : decode cJ13_bitCount_95d88 52 = .ok (.lushr, 1) := by decide +kernel
theorem dJ13_bitCount_95d88_53 : decode cJ13_bitCount_95d88 53 = .ok (.ladd, 1) := by decide +kernel
theorem dJ13_bitCount_95d88_54 : decode cJ13_bitCount_95d88 54 = .ok (.lstore_n 0, 1) := by decide +kernel
theorem dJ13_bitCount_95d88_55 : decode cJ13_bitCount_95d88 55 = .ok (.lload_n 0, 1) := by decide +kernel
theorem dJ13_bitCount_95d88_56 : decode cJ13_bitCount_95d88 56 = .ok (.l2i, 1) := by decide +kernel
theorem dJ13_bitCount_95d88_57 : decode cJ13_bitCount_95d88 57 = .ok (.bipush 127, 2) := by decide +kernel
theorem dJ13_bitCount_95d88_59 : decode cJ13_bitCount_95d88 59 = .ok (.iand, 1) := by decide +kernel
theorem dJ13_bitCount_95d88_60 : decode cJ13_bitCount_95d88 60 = .ok (.ireturn, 1) := by decide +kernel
theorem dX5_freeCount_0 : decode cX5_freeCount 0 = .ok (.iconst 0, 1) := by decide +kernel
