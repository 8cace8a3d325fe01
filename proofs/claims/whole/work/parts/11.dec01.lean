theorem dX5_freeCount_1 : decode cX5_freeCount 1 = .ok (.istore_n 1, 1) := by decide +kernel
theorem dX5_freeCount_2 : decode cX5_freeCount 2 = .ok (.iconst 0, 1) := by decide +kernel
theorem dX5_freeCount_3 : decode cX5_freeCount 3 = .ok (.istore_n 2, 1) := by decide +kernel
theorem dX5_freeCount_4 : decode cX5_freeCount 4 = .ok (.iload_n 2, 1) := by decide +kernel
theorem dX5_freeCount_5 : decode cX5_freeCount 5 = .ok (.aload_n 0, 1) := by decide +kernel
theorem dX5_freeCount_6 : decode cX5_freeCount 6 = .ok (.getfield 26, 3) := by decide +kernel
theorem dX5_freeCount_9 : decode cX5_freeCount 9 = .ok (.if_icmp .ge 33, 3) := by decide +kernel
theorem dX5_freeCount_12 : decode cX5_freeCount 12 = .ok (.iload_n 1, 1) := by decide +kernel
theorem dX5_freeCount_13 : decode cX5_freeCount 13 = .ok (.aload_n 0, 1) := by decide +kernel
theorem dX5_freeCount_14 : decode cX5_freeCount 14 = .ok (.getfield 9, 3) := by decide +kernel
theorem dX5_freeCount_17 : decode cX5_freeCount 17 = .ok (.bipush 80, 2) := by decide +kernel
theorem dX5_freeCount_19 : decode cX5_freeCount 19 = .ok (.iload_n 2, 1) := by decide +kernel
theorem dX5_freeCount_20 : decode cX5_freeCount 20 = .ok (.bipush 8, 2) := by decide +kernel
theorem dX5_freeCount_22 : decode cX5_freeCount 22 = .ok (.idiv, 1) := by decide +kernel
theorem dX5_freeCount_23 : decode cX5_freeCount 23 = .ok (.iadd, 1) := by decide +kernel
theorem dX5_freeCount_24 : decode cX5_freeCount 24 = .ok (.iload_n 2, 1) := by decide +kernel
theorem dX5_freeCount_25 : decode cX5_freeCount 25 = .ok (.bipush 8, 2) := by decide +kernel
theorem dX5_freeCount_27 : decode cX5_freeCount 27 = .ok (.irem, 1) := by decide +kernel
theorem dX5_freeCount_28 : decode cX5_freeCount 28 = .ok (.invokevirtual 35, 3) := by decide +kernel
theorem dX5_freeCount_31 : decode cX5_freeCount 31 = .ok (.invokestatic 48, 3) := by decide +kernel
theorem dX5_freeCount_34 : decode cX5_freeCount 34 = .ok (.iadd, 1) := by decide +kernel
theorem dX5_freeCount_35 : decode cX5_freeCount 35 = .ok (.istore_n 1, 1) := by decide +kernel
theorem dX5_freeCount_36 : decode cX5_freeCount 36 = .ok (.iinc 2 1, 3) := by decide +kernel
theorem dX5_freeCount_39 : decode cX5_freeCount 39 = .ok (.goto (-35), 3) := by decide +kernel
theorem dX5_freeCount_42 : decode cX5_freeCount 42 = .ok (.aload_n 0, 1) := by decide +kernel
theorem dX5_freeCount_43 : decode cX5_freeCount 43 = .ok (.getfield 21, 3) := by decide +kernel
theorem dX5_freeCount_46 : decode cX5_freeCount 46 = .ok (.iload_n 1, 1) := by decide +kernel
theorem dX5_freeCount_47 : decode cX5_freeCount 47 = .ok (.isub, 1) := by decide +kernel
theorem dX5_freeCount_48 : decode cX5_freeCount 48 = .ok (.ireturn, 1) := by decide +kernel
theorem dX3_hasRoom_0 : decode cX3_hasRoom 0 = .ok (.aload_n 0, 1) := by decide +kernel
theorem dX3_hasRoom_1 : decode cX3_hasRoom 1 = .ok (.iload_n 1, 1) := by decide +kernel
theorem dX3_hasRoom_2 : decode cX3_hasRoom 2 = .ok (.lconst 0, 1) := by decide +kernel
theorem dX3_hasRoom_3 : decode cX3_hasRoom 3 = .ok (.invokevirtual 68, 3) := by decide +kernel
theorem dX3_hasRoom_6 : decode cX3_hasRoom 6 = .ok (.iconst (-1), 1) := by decide +kernel
theorem dX3_hasRoom_7 : decode cX3_hasRoom 7 = .ok (.if_icmp .eq 5, 3) := by decide +kernel
theorem dX3_hasRoom_10 : decode cX3_hasRoom 10 = .ok (.iconst 1, 1) := by decide +kernel
theorem dX3_hasRoom_11 : decode cX3_hasRoom 11 = .ok (.ireturn, 1) := by decide +kernel
theorem dX3_hasRoom_12 : decode cX3_hasRoom 12 = .ok (.aload_n 0, 1) := by decide +kernel
theorem dX3_hasRoom_13 : decode cX3_hasRoom 13 = .ok (.iload_n 1, 1) := by decide +kernel
theorem dX3_hasRoom_14 : decode cX3_hasRoom 14 = .ok (.bipush 11, 2) := by decide +kernel
theorem dX3_hasRoom_16 : decode cX3_hasRoom 16 = .ok (.invokevirtual 49, 3) := by decide +kernel
theorem dX3_hasRoom_19 : decode cX3_hasRoom 19 = .ok (.ifCond .ne 18, 3) := by decide +kernel
theorem dX3_hasRoom_22 : decode cX3_hasRoom 22 = .ok (.aload_n 0, 1) := by decide +kernel
theorem dX3_hasRoom_23 : decode cX3_hasRoom 23 = .ok (.getfield 15, 3) := by decide +kernel
theorem dX3_hasRoom_26 : decode cX3_hasRoom 26 = .ok (.invokevirtual 72, 3) := by decide +kernel
theorem dX3_hasRoom_29 : decode cX3_hasRoom 29 = .ok (.iload_n 2, 1) := by decide +kernel
theorem dX3_hasRoom_30 : decode cX3_hasRoom 30 = .ok (.if_icmp .le 7, 3) := by decide +kernel
theorem dX3_hasRoom_33 : decode cX3_hasRoom 33 = .ok (.iconst 1, 1) := by decide +kernel
theorem dX3_hasRoom_34 : decode cX3_hasRoom 34 = .ok (.goto 4, 3) := by decide +kernel
theorem dX3_hasRoom_37 : decode cX3_hasRoom 37 = .ok (.iconst 0, 1) := by decide +kernel
theorem dX3_hasRoom_38 : decode cX3_hasRoom 38 = .ok (.ireturn, 1) := by decide +kernel
theorem dX6_clear_0 : decode cX6_clear 0 = .ok (.iload_n 1, 1) := by decide +kernel
theorem dX6_clear_1 : decode cX6_clear 1 = .ok (.ifCond .lt 12, 3) := by decide +kernel
theorem dX6_clear_4 : decode cX6_clear 4 = .ok (.iload_n 1, 1) := by decide +kernel
theorem dX6_clear_5 : decode cX6_clear 5 = .ok (.aload_n 0, 1) := by decide +kernel
theorem dX6_clear_6 : decode cX6_clear 6 = .ok (.getfield 29, 3) := by decide +kernel
theorem dX6_clear_9 : decode cX6_clear 9 = .ok (.arraylength, 1) := by decide +kernel
theorem dX6_clear_10 : decode cX6_clear 10 = .ok (.if_icmp .lt 4, 3) := by decide +kernel
theorem dX6_clear_13 : decode cX6_clear 13 = .ok (.return_, 1) := by decide +kernel
theorem dX6_clear_14 : decode cX6_clear 14 = .ok (.aload_n 0, 1) := by decide +kernel
theorem dX6_clear_15 : decode cX6_clear 15 = .ok (.getfield 29, 3) := by decide +kernel
theorem dX6_clear_18 : decode cX6_clear 18 = .ok (.iload_n 1, 1) := by decide +kernel
theorem dX6_clear_19 : decode cX6_clear 19 = .ok (.baload, 1) := by decide +kernel
theorem dX6_clear_20 : decode cX6_clear 20 = .ok (.ifCond .ne 20, 3) := by decide +kernel
theorem dX6_clear_23 : decode cX6_clear 23 = .ok (.aload_n 0, 1) := by decide +kernel
theorem dX6_clear_24 : decode cX6_clear 24 = .ok (.getfield 29, 3) := by decide +kernel
theorem dX6_clear_27 : decode cX6_clear 27 = .ok (.iload_n 1, 1) := by decide +kernel
theorem dX6_clear_28 : decode cX6_clear 28 = .ok (.iconst 1, 1) := by decide +kernel
theorem dX6_clear_29 : decode cX6_clear 29 = .ok (.bastore, 1) := by decide +kernel
theorem dX6_clear_30 : decode cX6_clear 30 = .ok (.aload_n 0, 1) := by decide +kernel
theorem dX6_clear_31 : decode cX6_clear 31 = .ok (.dup, 1) := by decide +kernel
theorem dX6_clear_32 : decode cX6_clear 32 = .ok (.getfield 55, 3) := by decide +kernel
theorem dX6_clear_35 : decode cX6_clear 35 = .ok (.iconst 1, 1) := by decide +kernel
theorem dX6_clear_36 : decode cX6_clear 36 = .ok (.iadd, 1) := by decide +kernel
theorem dX6_clear_37 : decode cX6_clear 37 = .ok (.putfield 55, 3) := by decide +kernel
theorem dX6_clear_40 : decode cX6_clear 40 = .ok (.iconst 0, 1) := by decide +kernel
theorem dX6_clear_41 : decode cX6_clear 41 = .ok (.istore_n 2, 1) := by decide +kernel
theorem dX6_clear_42 : decode cX6_clear 42 = .ok (.iload_n 2, 1) := by decide +kernel
theorem dX6_clear_43 : decode cX6_clear 43 = .ok (.bipush 8, 2) := by decide +kernel
theorem dX6_clear_45 : decode cX6_clear 45 = .ok (.if_icmp .ge 21, 3) := by decide +kernel
theorem dX6_clear_48 : decode cX6_clear 48 = .ok (.aload_n 0, 1) := by decide +kernel
theorem dX6_clear_49 : decode cX6_clear 49 = .ok (.getfield 25, 3) := by decide +kernel
theorem dX6_clear_52 : decode cX6_clear 52 = .ok (.iload_n 1, 1) := by decide +kernel
theorem dX6_clear_53 : decode cX6_clear 53 = .ok (.bipush 8, 2) := by decide +kernel
theorem dX6_clear_55 : decode cX6_clear 55 = .ok (.imul, 1) := by decide +kernel
theorem dX6_clear_56 : decode cX6_clear 56 = .ok (.iload_n 2, 1) := by decide +kernel
theorem dX6_clear_57 : decode cX6_clear 57 = .ok (.iadd, 1) := by decide +kernel
theorem dX6_clear_58 : decode cX6_clear 58 = .ok (.lconst 0, 1) := by decide +kernel
theorem dX6_clear_59 : decode cX6_clear 59 = .ok (.lastore, 1) := by decide +kernel
theorem dX6_clear_60 : decode cX6_clear 60 = .ok (.iinc 2 1, 3) := by decide +kernel
theorem dX6_clear_63 : decode cX6_clear 63 = .ok (.goto (-21), 3) := by decide +kernel
theorem dX6_clear_66 : decode cX6_clear 66 = .ok (.return_, 1) := by decide +kernel
theorem dX6_setWord_0 : decode cX6_setWord 0 = .ok (.iload_n 1, 1) := by decide +kernel
theorem dX6_setWord_1 : decode cX6_setWord 1 = .ok (.ifCond .lt 22, 3) := by decide +kernel
theorem dX6_setWord_4 : decode cX6_setWord 4 = .ok (.iload_n 1, 1) := by decide +kernel
theorem dX6_setWord_5 : decode cX6_setWord 5 = .ok (.aload_n 0, 1) := by decide +kernel
theorem dX6_setWord_6 : decode cX6_setWord 6 = .ok (.getfield 29, 3) := by decide +kernel
theorem dX6_setWord_9 : decode cX6_setWord 9 = .ok (.arraylength, 1) := by decide +kernel
theorem dX6_setWord_10 : decode cX6_setWord 10 = .ok (.if_icmp .ge 13, 3) := by decide +kernel
theorem dX6_setWord_13 : decode cX6_setWord 13 = .ok (.iload_n 2, 1) := by decide +kernel
theorem dX6_setWord_14 : decode cX6_setWord 14 = .ok (.ifCond .lt 9, 3) := by decide +kernel
theorem dX6_setWord_17 : decode cX6_setWord 17 = .ok (.iload_n 2, 1) := by decide +kernel
theorem dX6_setWord_18 : decode cX6_setWord 18 = .ok (.bipush 8, 2) := by decide +kernel
theorem dX6_setWord_20 : decode cX6_setWord 20 = .ok (.if_icmp .lt 4, 3) := by decide +kernel
theorem dX6_setWord_23 : decode cX6_setWord 23 = .ok (.return_, 1) := by decide +kernel
theorem dX6_setWord_24 : decode cX6_setWord 24 = .ok (.aload_n 0, 1) := by decide +kernel
theorem dX6_setWord_25 : decode cX6_setWord 25 = .ok (.getfield 29, 3) := by decide +kernel
theorem dX6_setWord_28 : decode cX6_setWord 28 = .ok (.iload_n 1, 1) := by decide +kernel
theorem dX6_setWord_29 : decode cX6_setWord 29 = .ok (.baload, 1) := by decide +kernel
theorem dX6_setWord_30 : decode cX6_setWord 30 = .ok (.ifCond .ne 48, 3) := by decide +kernel
theorem dX6_setWord_33 : decode cX6_setWord 33 = .ok (.aload_n 0, 1) := by decide +kernel
theorem dX6_setWord_34 : decode cX6_setWord 34 = .ok (.getfield 9, 3) := by decide +kernel
theorem dX6_setWord_37 : decode cX6_setWord 37 = .ok (.getfield 40, 3) := by decide +kernel
theorem dX6_setWord_40 : decode cX6_setWord 40 = .ok (.aload_n 0, 1) := by decide +kernel
theorem dX6_setWord_41 : decode cX6_setWord 41 = .ok (.getfield 15, 3) := by decide +kernel
theorem dX6_setWord_44 : decode cX6_setWord 44 = .ok (.iload_n 1, 1) := by decide +kernel
theorem dX6_setWord_45 : decode cX6_setWord 45 = .ok (.invokevirtual 43, 3) := by decide +kernel
theorem dX6_setWord_48 : decode cX6_setWord 48 = .ok (.aload_n 0, 1) := by decide +kernel
theorem dX6_setWord_49 : decode cX6_setWord 49 = .ok (.getfield 25, 3) := by decide +kernel
theorem dX6_setWord_52 : decode cX6_setWord 52 = .ok (.iload_n 1, 1) := by decide +kernel
theorem dX6_setWord_53 : decode cX6_setWord 53 = .ok (.bipush 8, 2) := by decide +kernel
theorem dX6_setWord_55 : decode cX6_setWord 55 = .ok (.imul, 1) := by decide +kernel
theorem dX6_setWord_56 : decode cX6_setWord 56 = .ok (.bipush 8, 2) := by decide +kernel
theorem dX6_setWord_58 : decode cX6_setWord 58 = .ok (.invokestatic 49, 3) := by decide +kernel
theorem dX6_setWord_61 : decode cX6_setWord 61 = .ok (.aload_n 0, 1) := by decide +kernel
theorem dX6_setWord_62 : decode cX6_setWord 62 = .ok (.getfield 29, 3) := by decide +kernel
theorem dX6_setWord_65 : decode cX6_setWord 65 = .ok (.iload_n 1, 1) := by decide +kernel
theorem dX6_setWord_66 : decode cX6_setWord 66 = .ok (.iconst 1, 1) := by decide +kernel
theorem dX6_setWord_67 : decode cX6_setWord 67 = .ok (.bastore, 1) := by decide +kernel
theorem dX6_setWord_68 : decode cX6_setWord 68 = .ok (.aload_n 0, 1) := by decide +kernel
theorem dX6_setWord_69 : decode cX6_setWord 69 = .ok (.dup, 1) := by decide +kernel
theorem dX6_setWord_70 : decode cX6_setWord 70 = .ok (.getfield 55, 3) := by decide +kernel
theorem dX6_setWord_73 : decode cX6_setWord 73 = .ok (.iconst 1, 1) := by decide +kernel
theorem dX6_setWord_74 : decode cX6_setWord 74 = .ok (.iadd, 1) := by decide +kernel
theorem dX6_setWord_75 : decode cX6_setWord 75 = .ok (.putfield 55, 3) := by decide +kernel
theorem dX6_setWord_78 : decode cX6_setWord 78 = .ok (.aload_n 0, 1) := by decide +kernel
theorem dX6_setWord_79 : decode cX6_setWord 79 = .ok (.getfield 25, 3) := by decide +kernel
theorem dX6_setWord_82 : decode cX6_setWord 82 = .ok (.iload_n 1, 1) := by decide +kernel
theorem dX6_setWord_83 : decode cX6_setWord 83 = .ok (.bipush 8, 2) := by decide +kernel
theorem dX6_setWord_85 : decode cX6_setWord 85 = .ok (.imul, 1) := by decide +kernel
theorem dX6_setWord_86 : decode cX6_setWord 86 = .ok (.iload_n 2, 1) := by decide +kernel
theorem dX6_setWord_87 : decode cX6_setWord 87 = .ok (.iadd, 1) := by decide +kernel
theorem dX6_setWord_88 : decode cX6_setWord 88 = .ok (.lload_n 3, 1) := by decide +kernel
theorem dX6_setWord_89 : decode cX6_setWord 89 = .ok (.lastore, 1) := by decide +kernel
theorem dX6_setWord_90 : decode cX6_setWord 90 = .ok (.return_, 1) := by decide +kernel
theorem dX4_begin_0 : decode cX4_begin 0 = .ok (.iload_n 2, 1) := by decide +kernel
theorem dX4_begin_1 : decode cX4_begin 1 = .ok (.iconst 1, 1) := by decide +kernel
theorem dX4_begin_2 : decode cX4_begin 2 = .ok (.if_icmp .eq 8, 3) := by decide +kernel
theorem dX4_begin_5 : decode cX4_begin 5 = .ok (.iload_n 2, 1) := by decide +kernel
theorem dX4_begin_6 : decode cX4_begin 6 = .ok (.iconst 3, 1) := by decide +kernel
theorem dX4_begin_7 : decode cX4_begin 7 = .ok (.if_icmp .ne 7, 3) := by decide +kernel
theorem dX4_begin_10 : decode cX4_begin 10 = .ok (.iconst 1, 1) := by decide +kernel
theorem dX4_begin_11 : decode cX4_begin 11 = .ok (.goto 4, 3) := by decide +kernel
theorem dX4_begin_14 : decode cX4_begin 14 = .ok (.iconst 0, 1) := by decide +kernel
theorem dX4_begin_15 : decode cX4_begin 15 = .ok (.istore 5, 2) := by decide +kernel
theorem dX4_begin_17 : decode cX4_begin 17 = .ok (.aload_n 0, 1) := by decide +kernel
theorem dX4_begin_18 : decode cX4_begin 18 = .ok (.getfield 9, 3) := by decide +kernel
theorem dX4_begin_21 : decode cX4_begin 21 = .ok (.aload_n 0, 1) := by decide +kernel
theorem dX4_begin_22 : decode cX4_begin 22 = .ok (.getfield 15, 3) := by decide +kernel
theorem dX4_begin_25 : decode cX4_begin 25 = .ok (.iload_n 1, 1) := by decide +kernel
theorem dX4_begin_26 : decode cX4_begin 26 = .ok (.iadd, 1) := by decide +kernel
theorem dX4_begin_27 : decode cX4_begin 27 = .ok (.invokevirtual 73, 3) := by decide +kernel
theorem dX4_begin_30 : decode cX4_begin 30 = .ok (.aload_n 0, 1) := by decide +kernel
theorem dX4_begin_31 : decode cX4_begin 31 = .ok (.getfield 9, 3) := by decide +kernel
theorem dX4_begin_34 : decode cX4_begin 34 = .ok (.aload_n 0, 1) := by decide +kernel
theorem dX4_begin_35 : decode cX4_begin 35 = .ok (.getfield 15, 3) := by decide +kernel
theorem dX4_begin_38 : decode cX4_begin 38 = .ok (.iload_n 1, 1) := by decide +kernel
theorem dX4_begin_39 : decode cX4_begin 39 = .ok (.iadd, 1) := by decide +kernel
theorem dX4_begin_40 : decode cX4_begin 40 = .ok (.iconst 0, 1) := by decide +kernel
theorem dX4_begin_41 : decode cX4_begin 41 = .ok (.iload_n 2, 1) := by decide +kernel
theorem dX4_begin_42 : decode cX4_begin 42 = .ok (.iload_n 3, 1) := by decide +kernel
theorem dX4_begin_43 : decode cX4_begin 43 = .ok (.bipush 8, 2) := by decide +kernel
theorem dX4_begin_45 : decode cX4_begin 45 = .ok (.ishl, 1) := by decide +kernel
theorem dX4_begin_46 : decode cX4_begin 46 = .ok (.ior, 1) := by decide +kernel
theorem dX4_begin_47 : decode cX4_begin 47 = .ok (.iload 4, 2) := by decide +kernel
theorem dX4_begin_49 : decode cX4_begin 49 = .ok (.bipush 16, 2) := by decide +kernel
theorem dX4_begin_51 : decode cX4_begin 51 = .ok (.ishl, 1) := by decide +kernel
theorem dX4_begin_52 : decode cX4_begin 52 = .ok (.ior, 1) := by decide +kernel
theorem dX4_begin_53 : decode cX4_begin 53 = .ok (.i2l, 1) := by decide +kernel
theorem dX4_begin_54 : decode cX4_begin 54 = .ok (.iload 5, 2) := by decide +kernel
theorem dX4_begin_56 : decode cX4_begin 56 = .ok (.i2l, 1) := by decide +kernel
theorem dX4_begin_57 : decode cX4_begin 57 = .ok (.bipush 24, 2) := by decide +kernel
theorem dX4_begin_59 : decode cX4_begin 59 = .ok (.lshl, 1) := by decide +kernel
theorem dX4_begin_60 : decode cX4_begin 60 = .ok (.lor, 1) := by decide +kernel
theorem dX4_begin_61 : decode cX4_begin 61 = .ok (.invokevirtual 43, 3) := by decide +kernel
theorem dX4_begin_64 : decode cX4_begin 64 = .ok (.return_, 1) := by decide +kernel
theorem dX5_takeBlank_0 : decode cX5_takeBlank 0 = .ok (.iconst 0, 1) := by decide +kernel
theorem dX5_takeBlank_1 : decode cX5_takeBlank 1 = .ok (.istore_n 1, 1) := by decide +kernel
theorem dX5_takeBlank_2 : decode cX5_takeBlank 2 = .ok (.iload_n 1, 1) := by decide +kernel
theorem dX5_takeBlank_3 : decode cX5_takeBlank 3 = .ok (.aload_n 0, 1) := by decide +kernel
theorem dX5_takeBlank_4 : decode cX5_takeBlank 4 = .ok (.getfield 26, 3) := by decide +kernel
theorem dX5_takeBlank_7 : decode cX5_takeBlank 7 = .ok (.if_icmp .ge 105, 3) := by decide +kernel
theorem dX5_takeBlank_10 : decode cX5_takeBlank 10 = .ok (.aload_n 0, 1) := by decide +kernel
theorem dX5_takeBlank_11 : decode cX5_takeBlank 11 = .ok (.getfield 9, 3) := by decide +kernel
theorem dX5_takeBlank_14 : decode cX5_takeBlank 14 = .ok (.bipush 80, 2) := by decide +kernel
theorem dX5_takeBlank_16 : decode cX5_takeBlank 16 = .ok (.iload_n 1, 1) := by decide +kernel
theorem dX5_takeBlank_17 : decode cX5_takeBlank 17 = .ok (.bipush 8, 2) := by decide +kernel
theorem dX5_takeBlank_19 : decode cX5_takeBlank 19 = .ok (.idiv, 1) := by decide +kernel
theorem dX5_takeBlank_20 : decode cX5_takeBlank 20 = .ok (.iadd, 1) := by decide +kernel
theorem dX5_takeBlank_21 : decode cX5_takeBlank 21 = .ok (.iload_n 1, 1) := by decide +kernel
theorem dX5_takeBlank_22 : decode cX5_takeBlank 22 = .ok (.bipush 8, 2) := by decide +kernel
theorem dX5_takeBlank_24 : decode cX5_takeBlank 24 = .ok (.irem, 1) := by decide +kernel
theorem dX5_takeBlank_25 : decode cX5_takeBlank 25 = .ok (.invokevirtual 35, 3) := by decide +kernel
theorem dX5_takeBlank_28 : decode cX5_takeBlank 28 = .ok (.ldc2_w 54, 3) := by decide +kernel
theorem dX5_takeBlank_31 : decode cX5_takeBlank 31 = .ok (.lxor, 1) := by decide +kernel
theorem dX5_takeBlank_32 : decode cX5_takeBlank 32 = .ok (.lstore_n 2, 1) := by decide +kernel
theorem dX5_takeBlank_33 : decode cX5_takeBlank 33 = .ok (.lload_n 2, 1) := by decide +kernel
theorem dX5_takeBlank_34 : decode cX5_takeBlank 34 = .ok (.lload_n 2, 1) := by decide +kernel
theorem dX5_takeBlank_35 : decode cX5_takeBlank 35 = .ok (.lneg, 1) := by decide +kernel
theorem dX5_takeBlank_36 : decode cX5_takeBlank 36 = .ok (.land, 1) := by decide +kernel
theorem dX5_takeBlank_37 : decode cX5_takeBlank 37 = .ok (.lstore 4, 2) := by decide +kernel
theorem dX5_takeBlank_39 : decode cX5_takeBlank 39 = .ok (.bipush 64, 2) := by decide +kernel
theorem dX5_takeBlank_41 : decode cX5_takeBlank 41 = .ok (.iload_n 1, 1) := by decide +kernel
theorem dX5_takeBlank_42 : decode cX5_takeBlank 42 = .ok (.imul, 1) := by decide +kernel
theorem dX5_takeBlank_43 : decode cX5_takeBlank 43 = .ok (.lload 4, 2) := by decide +kernel
theorem dX5_takeBlank_45 : decode cX5_takeBlank 45 = .ok (.lconst 1, 1) := by decide +kernel
theorem dX5_takeBlank_46 : decode cX5_takeBlank 46 = .ok (.lsub, 1) := by decide +kernel
theorem dX5_takeBlank_47 : decode cX5_takeBlank 47 = .ok (.invokestatic 48, 3) := by decide +kernel
theorem dX5_takeBlank_50 : decode cX5_takeBlank 50 = .ok (.iadd, 1) := by decide +kernel
theorem dX5_takeBlank_51 : decode cX5_takeBlank 51 = .ok (.istore 6, 2) := by decide +kernel
theorem dX5_takeBlank_53 : decode cX5_takeBlank 53 = .ok (.lload_n 2, 1) := by decide +kernel
theorem dX5_takeBlank_54 : decode cX5_takeBlank 54 = .ok (.lconst 0, 1) := by decide +kernel
theorem dX5_takeBlank_55 : decode cX5_takeBlank 55 = .ok (.lcmp, 1) := by decide +kernel
theorem dX5_takeBlank_56 : decode cX5_takeBlank 56 = .ok (.ifCond .eq 50, 3) := by decide +kernel
theorem dX5_takeBlank_59 : decode cX5_takeBlank 59 = .ok (.iload 6, 2) := by decide +kernel
theorem dX5_takeBlank_61 : decode cX5_takeBlank 61 = .ok (.aload_n 0, 1) := by decide +kernel
theorem dX5_takeBlank_62 : decode cX5_takeBlank 62 = .ok (.getfield 21, 3) := by decide +kernel
theorem dX5_takeBlank_65 : decode cX5_takeBlank 65 = .ok (.if_icmp .ge 41, 3) := by decide +kernel
theorem dX5_takeBlank_68 : decode cX5_takeBlank 68 = .ok (.aload_n 0, 1) := by decide +kernel
theorem dX5_takeBlank_69 : decode cX5_takeBlank 69 = .ok (.getfield 9, 3) := by decide +kernel
theorem dX5_takeBlank_72 : decode cX5_takeBlank 72 = .ok (.bipush 80, 2) := by decide +kernel
theorem dX5_takeBlank_74 : decode cX5_takeBlank 74 = .ok (.iload_n 1, 1) := by decide +kernel
theorem dX5_takeBlank_75 : decode cX5_takeBlank 75 = .ok (.bipush 8, 2) := by decide +kernel
theorem dX5_takeBlank_77 : decode cX5_takeBlank 77 = .ok (.idiv, 1) := by decide +kernel
theorem dX5_takeBlank_78 : decode cX5_takeBlank 78 = .ok (.iadd, 1) := by decide +kernel
theorem dX5_takeBlank_79 : decode cX5_takeBlank 79 = .ok (.iload_n 1, 1) := by decide +kernel
theorem dX5_takeBlank_80 : decode cX5_takeBlank 80 = .ok (.bipush 8, 2) := by decide +kernel
theorem dX5_takeBlank_82 : decode cX5_takeBlank 82 = .ok (.irem, 1) := by decide +kernel
theorem dX5_takeBlank_83 : decode cX5_takeBlank 83 = .ok (.lload_n 2, 1) := by decide +kernel
theorem dX5_takeBlank_84 : decode cX5_takeBlank 84 = .ok (.ldc2_w 54, 3) := by decide +kernel
theorem dX5_takeBlank_87 : decode cX5_takeBlank 87 = .ok (.lxor, 1) := by decide +kernel
theorem dX5_takeBlank_88 : decode cX5_takeBlank 88 = .ok (.lload 4, 2) := by decide +kernel
theorem dX5_takeBlank_90 : decode cX5_takeBlank 90 = .ok (.lor, 1) := by decide +kernel
theorem dX5_takeBlank_91 : decode cX5_takeBlank 91 = .ok (.invokevirtual 56, 3) := by decide +kernel
theorem dX5_takeBlank_94 : decode cX5_takeBlank 94 = .ok (.aload_n 0, 1) := by decide +kernel
theorem dX5_takeBlank_95 : decode cX5_takeBlank 95 = .ok (.getfield 9, 3) := by decide +kernel
theorem dX5_takeBlank_98 : decode cX5_takeBlank 98 = .ok (.iload 6, 2) := by decide +kernel
theorem dX5_takeBlank_100 : decode cX5_takeBlank 100 = .ok (.invokevirtual 60, 3) := by decide +kernel
theorem dX5_takeBlank_103 : decode cX5_takeBlank 103 = .ok (.iload 6, 2) := by decide +kernel
theorem dX5_takeBlank_105 : decode cX5_takeBlank 105 = .ok (.ireturn, 1) := by decide +kernel
theorem dX5_takeBlank_106 : decode cX5_takeBlank 106 = .ok (.iinc 1 1, 3) := by decide +kernel
theorem dX5_takeBlank_109 : decode cX5_takeBlank 109 = .ok (.goto (-107), 3) := by decide +kernel
theorem dX5_takeBlank_112 : decode cX5_takeBlank 112 = .ok (.iconst 0, 1) := by decide +kernel
theorem dX5_takeBlank_113 : decode cX5_takeBlank 113 = .ok (.ireturn, 1) := by decide +kernel
theorem dX6_setHalf_0 : decode cX6_setHalf 0 = .ok (.bipush 16, 2) := by decide +kernel
theorem dX6_setHalf_2 : decode cX6_setHalf 2 = .ok (.iload_n 2, 1) := by decide +kernel
theorem dX6_setHalf_3 : decode cX6_setHalf 3 = .ok (.iconst 4, 1) := by decide +kernel
theorem dX6_setHalf_4 : decode cX6_setHalf 4 = .ok (.irem, 1) := by decide +kernel
theorem dX6_setHalf_5 : decode cX6_setHalf 5 = .ok (.imul, 1) := by decide +kernel
theorem dX6_setHalf_6 : decode cX6_setHalf 6 = .ok (.istore 4, 2) := by decide +kernel
theorem dX6_setHalf_8 : decode cX6_setHalf 8 = .ok (.aload_n 0, 1) := by decide +kernel
theorem dX6_setHalf_9 : decode cX6_setHalf 9 = .ok (.iload_n 1, 1) := by decide +kernel
theorem dX6_setHalf_10 : decode cX6_setHalf 10 = .ok (.iload_n 2, 1) := by decide +kernel
theorem dX6_setHalf_11 : decode cX6_setHalf 11 = .ok (.iconst 4, 1) := by decide +kernel
theorem dX6_setHalf_12 : decode cX6_setHalf 12 = .ok (.idiv, 1) := by decide +kernel
theorem dX6_setHalf_13 : decode cX6_setHalf 13 = .ok (.invokevirtual 58, 3) := by decide +kernel
theorem dX6_setHalf_16 : decode cX6_setHalf 16 = .ok (.ldc2_w 63, 3) := by decide +kernel
theorem dX6_setHalf_19 : decode cX6_setHalf 19 = .ok (.iload 4, 2) := by decide +kernel
theorem dX6_setHalf_21 : decode cX6_setHalf 21 = .ok (.lshl, 1) := by decide +kernel
theorem dX6_setHalf_22 : decode cX6_setHalf 22 = .ok (.ldc2_w 65, 3) := by decide +kernel
theorem dX6_setHalf_25 : decode cX6_setHalf 25 = .ok (.lxor, 1) := by decide +kernel
theorem dX6_setHalf_26 : decode cX6_setHalf 26 = .ok (.land, 1) := by decide +kernel
theorem dX6_setHalf_27 : decode cX6_setHalf 27 = .ok (.lstore 5, 2) := by decide +kernel
theorem dX6_setHalf_29 : decode cX6_setHalf 29 = .ok (.aload_n 0, 1) := by decide +kernel
theorem dX6_setHalf_30 : decode cX6_setHalf 30 = .ok (.iload_n 1, 1) := by decide +kernel
theorem dX6_setHalf_31 : decode cX6_setHalf 31 = .ok (.iload_n 2, 1) := by decide +kernel
theorem dX6_setHalf_32 : decode cX6_setHalf 32 = .ok (.iconst 4, 1) := by decide +kernel
theorem dX6_setHalf_33 : decode cX6_setHalf 33 = .ok (.idiv, 1) := by decide +kernel
theorem dX6_setHalf_34 : decode cX6_setHalf 34 = .ok (.lload 5, 2) := by decide +kernel
theorem dX6_setHalf_36 : decode cX6_setHalf 36 = .ok (.iload_n 3, 1) := by decide +kernel
theorem dX6_setHalf_37 : decode cX6_setHalf 37 = .ok (.i2l, 1) := by decide +kernel
theorem dX6_setHalf_38 : decode cX6_setHalf 38 = .ok (.ldc2_w 63, 3) := by decide +kernel
theorem dX6_setHalf_41 : decode cX6_setHalf 41 = .ok (.land, 1) := by decide +kernel
theorem dX6_setHalf_42 : decode cX6_setHalf 42 = .ok (.iload 4, 2) := by decide +kernel
theorem dX6_setHalf_44 : decode cX6_setHalf 44 = .ok (.lshl, 1) := by decide +kernel
theorem dX6_setHalf_45 : decode cX6_setHalf 45 = .ok (.lor, 1) := by decide +kernel
theorem dX6_setHalf_46 : decode cX6_setHalf 46 = .ok (.invokevirtual 67, 3) := by decide +kernel
theorem dX6_setHalf_49 : decode cX6_setHalf 49 = .ok (.return_, 1) := by decide +kernel
theorem dX3_fillSlot_0 : decode cX3_fillSlot 0 = .ok (.aload_n 0, 1) := by decide +kernel
theorem dX3_fillSlot_1 : decode cX3_fillSlot 1 = .ok (.getfield 9, 3) := by decide +kernel
theorem dX3_fillSlot_4 : decode cX3_fillSlot 4 = .ok (.iload_n 1, 1) := by decide +kernel
theorem dX3_fillSlot_5 : decode cX3_fillSlot 5 = .ok (.iload_n 2, 1) := by decide +kernel
theorem dX3_fillSlot_6 : decode cX3_fillSlot 6 = .ok (.lload_n 3, 1) := by decide +kernel
theorem dX3_fillSlot_7 : decode cX3_fillSlot 7 = .ok (.invokevirtual 56, 3) := by decide +kernel
theorem dX3_fillSlot_10 : decode cX3_fillSlot 10 = .ok (.aload_n 0, 1) := by decide +kernel
theorem dX3_fillSlot_11 : decode cX3_fillSlot 11 = .ok (.getfield 9, 3) := by decide +kernel
theorem dX3_fillSlot_14 : decode cX3_fillSlot 14 = .ok (.iload_n 1, 1) := by decide +kernel
theorem dX3_fillSlot_15 : decode cX3_fillSlot 15 = .ok (.bipush 16, 2) := by decide +kernel
theorem dX3_fillSlot_17 : decode cX3_fillSlot 17 = .ok (.iload_n 2, 1) := by decide +kernel
theorem dX3_fillSlot_18 : decode cX3_fillSlot 18 = .ok (.iadd, 1) := by decide +kernel
theorem dX3_fillSlot_19 : decode cX3_fillSlot 19 = .ok (.iload 5, 2) := by decide +kernel
theorem dX3_fillSlot_21 : decode cX3_fillSlot 21 = .ok (.invokevirtual 60, 3) := by decide +kernel
theorem dX3_fillSlot_24 : decode cX3_fillSlot 24 = .ok (.return_, 1) := by decide +kernel
theorem dX3_add_0 : decode cX3_add 0 = .ok (.aload_n 0, 1) := by decide +kernel
theorem dX3_add_1 : decode cX3_add 1 = .ok (.iload_n 1, 1) := by decide +kernel
theorem dX3_add_2 : decode cX3_add 2 = .ok (.lconst 0, 1) := by decide +kernel
theorem dX3_add_3 : decode cX3_add 3 = .ok (.invokevirtual 68, 3) := by decide +kernel
theorem dX3_add_6 : decode cX3_add 6 = .ok (.istore 5, 2) := by decide +kernel
theorem dX3_add_8 : decode cX3_add 8 = .ok (.iload 5, 2) := by decide +kernel
theorem dX3_add_10 : decode cX3_add 10 = .ok (.iconst (-1), 1) := by decide +kernel
theorem dX3_add_11 : decode cX3_add 11 = .ok (.if_icmp .eq 24, 3) := by decide +kernel
theorem dX3_add_14 : decode cX3_add 14 = .ok (.aload_n 0, 1) := by decide +kernel
theorem dX3_add_15 : decode cX3_add 15 = .ok (.aload_n 0, 1) := by decide +kernel
theorem dX3_add_16 : decode cX3_add 16 = .ok (.iload_n 1, 1) := by decide +kernel
theorem dX3_add_17 : decode cX3_add 17 = .ok (.iload 5, 2) := by decide +kernel
theorem dX3_add_19 : decode cX3_add 19 = .ok (.iconst 4, 1) := by decide +kernel
theorem dX3_add_20 : decode cX3_add 20 = .ok (.idiv, 1) := by decide +kernel
theorem dX3_add_21 : decode cX3_add 21 = .ok (.invokevirtual 49, 3) := by decide +kernel
theorem dX3_add_24 : decode cX3_add 24 = .ok (.iload 5, 2) := by decide +kernel
theorem dX3_add_26 : decode cX3_add 26 = .ok (.iconst 4, 1) := by decide +kernel
theorem dX3_add_27 : decode cX3_add 27 = .ok (.irem, 1) := by decide +kernel
theorem dX3_add_28 : decode cX3_add 28 = .ok (.lload_n 2, 1) := by decide +kernel
theorem dX3_add_29 : decode cX3_add 29 = .ok (.iload 4, 2) := by decide +kernel
theorem dX3_add_31 : decode cX3_add 31 = .ok (.invokevirtual 64, 3) := by decide +kernel
theorem dX3_add_34 : decode cX3_add 34 = .ok (.return_, 1) := by decide +kernel
theorem dX3_add_35 : decode cX3_add 35 = .ok (.iconst 0, 1) := by decide +kernel
theorem dX3_add_36 : decode cX3_add 36 = .ok (.istore 6, 2) := by decide +kernel
theorem dX3_add_38 : decode cX3_add 38 = .ok (.iload 6, 2) := by decide +kernel
theorem dX3_add_40 : decode cX3_add 40 = .ok (.bipush 12, 2) := by decide +kernel
theorem dX3_add_42 : decode cX3_add 42 = .ok (.if_icmp .ge 60, 3) := by decide +kernel
theorem dX3_add_45 : decode cX3_add 45 = .ok (.aload_n 0, 1) := by decide +kernel
theorem dX3_add_46 : decode cX3_add 46 = .ok (.iload_n 1, 1) := by decide +kernel
theorem dX3_add_47 : decode cX3_add 47 = .ok (.iload 6, 2) := by decide +kernel
theorem dX3_add_49 : decode cX3_add 49 = .ok (.invokevirtual 49, 3) := by decide +kernel
theorem dX3_add_52 : decode cX3_add 52 = .ok (.ifCond .ne 44, 3) := by decide +kernel
theorem dX3_add_55 : decode cX3_add 55 = .ok (.aload_n 0, 1) := by decide +kernel
theorem dX3_add_56 : decode cX3_add 56 = .ok (.getfield 15, 3) := by decide +kernel
theorem dX3_add_59 : decode cX3_add 59 = .ok (.invokevirtual 78, 3) := by decide +kernel
theorem dX3_add_62 : decode cX3_add 62 = .ok (.istore 7, 2) := by decide +kernel
theorem dX3_add_64 : decode cX3_add 64 = .ok (.aload_n 0, 1) := by decide +kernel
theorem dX3_add_65 : decode cX3_add 65 = .ok (.getfield 9, 3) := by decide +kernel
theorem dX3_add_68 : decode cX3_add 68 = .ok (.aload_n 0, 1) := by decide +kernel
theorem dX3_add_69 : decode cX3_add 69 = .ok (.getfield 19, 3) := by decide +kernel
theorem dX3_add_72 : decode cX3_add 72 = .ok (.iload_n 1, 1) := by decide +kernel
theorem dX3_add_73 : decode cX3_add 73 = .ok (.invokevirtual 37, 3) := by decide +kernel
theorem dX3_add_76 : decode cX3_add 76 = .ok (.iconst 4, 1) := by decide +kernel
theorem dX3_add_77 : decode cX3_add 77 = .ok (.iload 6, 2) := by decide +kernel
theorem dX3_add_79 : decode cX3_add 79 = .ok (.iadd, 1) := by decide +kernel
theorem dX3_add_80 : decode cX3_add 80 = .ok (.iload 7, 2) := by decide +kernel
theorem dX3_add_82 : decode cX3_add 82 = .ok (.invokevirtual 60, 3) := by decide +kernel
theorem dX3_add_85 : decode cX3_add 85 = .ok (.aload_n 0, 1) := by decide +kernel
theorem dX3_add_86 : decode cX3_add 86 = .ok (.iload 7, 2) := by decide +kernel
theorem dX3_add_88 : decode cX3_add 88 = .ok (.iconst 0, 1) := by decide +kernel
theorem dX3_add_89 : decode cX3_add 89 = .ok (.lload_n 2, 1) := by decide +kernel
theorem dX3_add_90 : decode cX3_add 90 = .ok (.iload 4, 2) := by decide +kernel
theorem dX3_add_92 : decode cX3_add 92 = .ok (.invokevirtual 64, 3) := by decide +kernel
theorem dX3_add_95 : decode cX3_add 95 = .ok (.return_, 1) := by decide +kernel
theorem dX3_add_96 : decode cX3_add 96 = .ok (.iinc 6 1, 3) := by decide +kernel
theorem dX3_add_99 : decode cX3_add 99 = .ok (.goto (-61), 3) := by decide +kernel
theorem dX3_add_102 : decode cX3_add 102 = .ok (.return_, 1) := by decide +kernel
theorem dX10_enter_0 : decode cX10_enter 0 = .ok (.aload_n 0, 1) := by decide +kernel
theorem dX10_enter_1 : decode cX10_enter 1 = .ok (.iload_n 1, 1) := by decide +kernel
theorem dX10_enter_2 : decode cX10_enter 2 = .ok (.lload_n 2, 1) := by decide +kernel
theorem dX10_enter_3 : decode cX10_enter 3 = .ok (.invokevirtual 345, 3) := by decide +kernel
theorem dX10_enter_6 : decode cX10_enter 6 = .ok (.istore 6, 2) := by decide +kernel
theorem dX10_enter_8 : decode cX10_enter 8 = .ok (.iload 6, 2) := by decide +kernel
theorem dX10_enter_10 : decode cX10_enter 10 = .ok (.ifCond .eq 6, 3) := by decide +kernel
theorem dX10_enter_13 : decode cX10_enter 13 = .ok (.iload 6, 2) := by decide +kernel
theorem dX10_enter_15 : decode cX10_enter 15 = .ok (.ireturn, 1) := by decide +kernel
theorem dX10_enter_16 : decode cX10_enter 16 = .ok (.iload 4, 2) := by decide +kernel
theorem dX10_enter_18 : decode cX10_enter 18 = .ok (.iconst 4, 1) := by decide +kernel
theorem dX10_enter_19 : decode cX10_enter 19 = .ok (.if_icmp .ne 28, 3) := by decide +kernel
theorem dX10_enter_22 : decode cX10_enter 22 = .ok (.aload_n 0, 1) := by decide +kernel
theorem dX10_enter_23 : decode cX10_enter 23 = .ok (.getfield 79, 3) := by decide +kernel
theorem dX10_enter_26 : decode cX10_enter 26 = .ok (.getfield 116, 3) := by decide +kernel
theorem dX10_enter_29 : decode cX10_enter 29 = .ok (.ifCond .eq 15, 3) := by decide +kernel
theorem dX10_enter_32 : decode cX10_enter 32 = .ok (.aload_n 0, 1) := by decide +kernel
theorem dX10_enter_33 : decode cX10_enter 33 = .ok (.getfield 79, 3) := by decide +kernel
theorem dX10_enter_36 : decode cX10_enter 36 = .ok (.getfield 116, 3) := by decide +kernel
theorem dX10_enter_39 : decode cX10_enter 39 = .ok (.bipush 40, 2) := by decide +kernel
theorem dX10_enter_41 : decode cX10_enter 41 = .ok (.if_icmp .le 6, 3) := by decide +kernel
theorem dX10_enter_44 : decode cX10_enter 44 = .ok (.bipush (-15), 2) := by decide +kernel
theorem dX10_enter_46 : decode cX10_enter 46 = .ok (.ireturn, 1) := by decide +kernel
theorem dX10_enter_47 : decode cX10_enter 47 = .ok (.aload_n 0, 1) := by decide +kernel
theorem dX10_enter_48 : decode cX10_enter 48 = .ok (.getfield 71, 3) := by decide +kernel
theorem dX10_enter_51 : decode cX10_enter 51 = .ok (.invokevirtual 348, 3) := by decide +kernel
theorem dX10_enter_54 : decode cX10_enter 54 = .ok (.istore 7, 2) := by decide +kernel
theorem dX10_enter_56 : decode cX10_enter 56 = .ok (.iload 7, 2) := by decide +kernel
theorem dX10_enter_58 : decode cX10_enter 58 = .ok (.iconst (-1), 1) := by decide +kernel
theorem dX10_enter_59 : decode cX10_enter 59 = .ok (.if_icmp .eq 15, 3) := by decide +kernel
theorem dX10_enter_62 : decode cX10_enter 62 = .ok (.aload_n 0, 1) := by decide +kernel
theorem dX10_enter_63 : decode cX10_enter 63 = .ok (.getfield 75, 3) := by decide +kernel
theorem dX10_enter_66 : decode cX10_enter 66 = .ok (.iload_n 1, 1) := by decide +kernel
theorem dX10_enter_67 : decode cX10_enter 67 = .ok (.iconst 0, 1) := by decide +kernel
theorem dX10_enter_68 : decode cX10_enter 68 = .ok (.invokevirtual 158, 3) := by decide +kernel
theorem dX10_enter_71 : decode cX10_enter 71 = .ok (.ifCond .ne 6, 3) := by decide +kernel
theorem dX10_enter_74 : decode cX10_enter 74 = .ok (.bipush (-16), 2) := by decide +kernel
theorem dX10_enter_76 : decode cX10_enter 76 = .ok (.ireturn, 1) := by decide +kernel
theorem dX10_enter_77 : decode cX10_enter 77 = .ok (.aload_n 0, 1) := by decide +kernel
theorem dX10_enter_78 : decode cX10_enter 78 = .ok (.getfield 71, 3) := by decide +kernel
theorem dX10_enter_81 : decode cX10_enter 81 = .ok (.iload 7, 2) := by decide +kernel
theorem dX10_enter_83 : decode cX10_enter 83 = .ok (.iload 4, 2) := by decide +kernel
theorem dX10_enter_85 : decode cX10_enter 85 = .ok (.aload_n 0, 1) := by decide +kernel
theorem dX10_enter_86 : decode cX10_enter 86 = .ok (.getfield 113, 3) := by decide +kernel
theorem dX10_enter_89 : decode cX10_enter 89 = .ok (.iload 5, 2) := by decide +kernel
theorem dX10_enter_91 : decode cX10_enter 91 = .ok (.invokevirtual 351, 3) := by decide +kernel
theorem dX10_enter_94 : decode cX10_enter 94 = .ok (.aload_n 0, 1) := by decide +kernel
theorem dX10_enter_95 : decode cX10_enter 95 = .ok (.getfield 75, 3) := by decide +kernel
theorem dX10_enter_98 : decode cX10_enter 98 = .ok (.iload_n 1, 1) := by decide +kernel
theorem dX10_enter_99 : decode cX10_enter 99 = .ok (.lload_n 2, 1) := by decide +kernel
theorem dX10_enter_100 : decode cX10_enter 100 = .ok (.iload 7, 2) := by decide +kernel
theorem dX10_enter_102 : decode cX10_enter 102 = .ok (.invokevirtual 165, 3) := by decide +kernel
theorem dX10_enter_105 : decode cX10_enter 105 = .ok (.iload 7, 2) := by decide +kernel
theorem dX10_enter_107 : decode cX10_enter 107 = .ok (.ireturn, 1) := by decide +kernel
theorem dX10_make_0 : decode cX10_make 0 = .ok (.aload_n 0, 1) := by decide +kernel
theorem dX10_make_1 : decode cX10_make 1 = .ok (.getfield 63, 3) := by decide +kernel
theorem dX10_make_4 : decode cX10_make 4 = .ok (.bipush 40, 2) := by decide +kernel
theorem dX10_make_6 : decode cX10_make 6 = .ok (.invokevirtual 126, 3) := by decide +kernel
theorem dX10_make_9 : decode cX10_make 9 = .ok (.ifCond .eq 15, 3) := by decide +kernel
theorem dX10_make_12 : decode cX10_make 12 = .ok (.aload_n 0, 1) := by decide +kernel
theorem dX10_make_13 : decode cX10_make 13 = .ok (.iload_n 1, 1) := by decide +kernel
theorem dX10_make_14 : decode cX10_make 14 = .ok (.lload_n 2, 1) := by decide +kernel
theorem dX10_make_15 : decode cX10_make 15 = .ok (.iconst 1, 1) := by decide +kernel
theorem dX10_make_16 : decode cX10_make 16 = .ok (.bipush 52, 2) := by decide +kernel
theorem dX10_make_18 : decode cX10_make 18 = .ok (.invokevirtual 130, 3) := by decide +kernel
theorem dX10_make_21 : decode cX10_make 21 = .ok (.goto 5, 3) := by decide +kernel
theorem dX10_make_24 : decode cX10_make 24 = .ok (.bipush (-99), 2) := by decide +kernel
theorem dX10_make_26 : decode cX10_make 26 = .ok (.ireturn, 1) := by decide +kernel
theorem dX4_setHolder_0 : decode cX4_setHolder 0 = .ok (.aload_n 0, 1) := by decide +kernel
theorem dX4_setHolder_1 : decode cX4_setHolder 1 = .ok (.getfield 9, 3) := by decide +kernel
theorem dX4_setHolder_4 : decode cX4_setHolder 4 = .ok (.aload_n 0, 1) := by decide +kernel
theorem dX4_setHolder_5 : decode cX4_setHolder 5 = .ok (.getfield 15, 3) := by decide +kernel
theorem dX4_setHolder_8 : decode cX4_setHolder 8 = .ok (.iload_n 1, 1) := by decide +kernel
theorem dX4_setHolder_9 : decode cX4_setHolder 9 = .ok (.iadd, 1) := by decide +kernel
theorem dX4_setHolder_10 : decode cX4_setHolder 10 = .ok (.bipush 18, 2) := by decide +kernel
theorem dX4_setHolder_12 : decode cX4_setHolder 12 = .ok (.iload_n 2, 1) := by decide +kernel
theorem dX4_setHolder_13 : decode cX4_setHolder 13 = .ok (.invokevirtual 50, 3) := by decide +kernel
theorem dX4_setHolder_16 : decode cX4_setHolder 16 = .ok (.return_, 1) := by decide +kernel
theorem dX10_dir_0 : decode cX10_dir 0 = .ok (.aload_n 0, 1) := by decide +kernel
theorem dX10_dir_1 : decode cX10_dir 1 = .ok (.getfield 63, 3) := by decide +kernel
theorem dX10_dir_4 : decode cX10_dir 4 = .ok (.bipush 40, 2) := by decide +kernel
theorem dX10_dir_6 : decode cX10_dir 6 = .ok (.invokevirtual 126, 3) := by decide +kernel
theorem dX10_dir_9 : decode cX10_dir 9 = .ok (.ifCond .ne 6, 3) := by decide +kernel
theorem dX10_dir_12 : decode cX10_dir 12 = .ok (.bipush (-99), 2) := by decide +kernel
theorem dX10_dir_14 : decode cX10_dir 14 = .ok (.ireturn, 1) := by decide +kernel
theorem dX10_dir_15 : decode cX10_dir 15 = .ok (.aload_n 0, 1) := by decide +kernel
theorem dX10_dir_16 : decode cX10_dir 16 = .ok (.iload_n 1, 1) := by decide +kernel
theorem dX10_dir_17 : decode cX10_dir 17 = .ok (.lload_n 2, 1) := by decide +kernel
theorem dX10_dir_18 : decode cX10_dir 18 = .ok (.iconst 2, 1) := by decide +kernel
theorem dX10_dir_19 : decode cX10_dir 19 = .ok (.bipush 61, 2) := by decide +kernel
theorem dX10_dir_21 : decode cX10_dir 21 = .ok (.invokevirtual 130, 3) := by decide +kernel
theorem dX10_dir_24 : decode cX10_dir 24 = .ok (.istore 4, 2) := by decide +kernel
theorem dX10_dir_26 : decode cX10_dir 26 = .ok (.iload 4, 2) := by decide +kernel
theorem dX10_dir_28 : decode cX10_dir 28 = .ok (.ifCond .lt 13, 3) := by decide +kernel
theorem dX10_dir_31 : decode cX10_dir 31 = .ok (.aload_n 0, 1) := by decide +kernel
theorem dX10_dir_32 : decode cX10_dir 32 = .ok (.getfield 71, 3) := by decide +kernel
theorem dX10_dir_35 : decode cX10_dir 35 = .ok (.iload 4, 2) := by decide +kernel
theorem dX10_dir_37 : decode cX10_dir 37 = .ok (.iload_n 1, 1) := by decide +kernel
theorem dX10_dir_38 : decode cX10_dir 38 = .ok (.invokevirtual 134, 3) := by decide +kernel
theorem dX10_dir_41 : decode cX10_dir 41 = .ok (.iload 4, 2) := by decide +kernel
theorem dX10_dir_43 : decode cX10_dir 43 = .ok (.ireturn, 1) := by decide +kernel
theorem dX5_isSet_0 : decode cX5_isSet 0 = .ok (.aload_n 0, 1) := by decide +kernel
theorem dX5_isSet_1 : decode cX5_isSet 1 = .ok (.getfield 9, 3) := by decide +kernel
theorem dX5_isSet_4 : decode cX5_isSet 4 = .ok (.bipush 80, 2) := by decide +kernel
theorem dX5_isSet_6 : decode cX5_isSet 6 = .ok (.iload_n 1, 1) := by decide +kernel
theorem dX5_isSet_7 : decode cX5_isSet 7 = .ok (.sipush 512, 3) := by decide +kernel
theorem dX5_isSet_10 : decode cX5_isSet 10 = .ok (.idiv, 1) := by decide +kernel
theorem dX5_isSet_11 : decode cX5_isSet 11 = .ok (.iadd, 1) := by decide +kernel
theorem dX5_isSet_12 : decode cX5_isSet 12 = .ok (.iload_n 1, 1) := by decide +kernel
theorem dX5_isSet_13 : decode cX5_isSet 13 = .ok (.sipush 512, 3) := by decide +kernel
theorem dX5_isSet_16 : decode cX5_isSet 16 = .ok (.irem, 1) := by decide +kernel
theorem dX5_isSet_17 : decode cX5_isSet 17 = .ok (.bipush 64, 2) := by decide +kernel
theorem dX5_isSet_19 : decode cX5_isSet 19 = .ok (.idiv, 1) := by decide +kernel
theorem dX5_isSet_20 : decode cX5_isSet 20 = .ok (.invokevirtual 35, 3) := by decide +kernel
theorem dX5_isSet_23 : decode cX5_isSet 23 = .ok (.iload_n 1, 1) := by decide +kernel
theorem dX5_isSet_24 : decode cX5_isSet 24 = .ok (.bipush 64, 2) := by decide +kernel
theorem dX5_isSet_26 : decode cX5_isSet 26 = .ok (.irem, 1) := by decide +kernel
theorem dX5_isSet_27 : decode cX5_isSet 27 = .ok (.lushr, 1) := by decide +kernel
theorem dX5_isSet_28 : decode cX5_isSet 28 = .ok (.lconst 1, 1) := by decide +kernel
theorem dX5_isSet_29 : decode cX5_isSet 29 = .ok (.land, 1) := by decide +kernel
theorem dX5_isSet_30 : decode cX5_isSet 30 = .ok (.lconst 0, 1) := by decide +kernel
theorem dX5_isSet_31 : decode cX5_isSet 31 = .ok (.lcmp, 1) := by decide +kernel
theorem dX5_isSet_32 : decode cX5_isSet 32 = .ok (.ifCond .eq 7, 3) := by decide +kernel
theorem dX5_isSet_35 : decode cX5_isSet 35 = .ok (.iconst 1, 1) := by decide +kernel
theorem dX5_isSet_36 : decode cX5_isSet 36 = .ok (.goto 4, 3) := by decide +kernel
theorem dX5_isSet_39 : decode cX5_isSet 39 = .ok (.iconst 0, 1) := by decide +kernel
theorem dX5_isSet_40 : decode cX5_isSet 40 = .ok (.ireturn, 1) := by decide +kernel
theorem dX5_isFree_0 : decode cX5_isFree 0 = .ok (.iload_n 1, 1) := by decide +kernel
theorem dX5_isFree_1 : decode cX5_isFree 1 = .ok (.aload_n 0, 1) := by decide +kernel
theorem dX5_isFree_2 : decode cX5_isFree 2 = .ok (.getfield 32, 3) := by decide +kernel
theorem dX5_isFree_5 : decode cX5_isFree 5 = .ok (.if_icmp .lt 23, 3) := by decide +kernel
theorem dX5_isFree_8 : decode cX5_isFree 8 = .ok (.iload_n 1, 1) := by decide +kernel
theorem dX5_isFree_9 : decode cX5_isFree 9 = .ok (.aload_n 0, 1) := by decide +kernel
theorem dX5_isFree_10 : decode cX5_isFree 10 = .ok (.getfield 21, 3) := by decide +kernel
theorem dX5_isFree_13 : decode cX5_isFree 13 = .ok (.if_icmp .ge 15, 3) := by decide +kernel
theorem dX5_isFree_16 : decode cX5_isFree 16 = .ok (.aload_n 0, 1) := by decide +kernel
theorem dX5_isFree_17 : decode cX5_isFree 17 = .ok (.iload_n 1, 1) := by decide +kernel
theorem dX5_isFree_18 : decode cX5_isFree 18 = .ok (.invokevirtual 44, 3) := by decide +kernel
theorem dX5_isFree_21 : decode cX5_isFree 21 = .ok (.ifCond .ne 7, 3) := by decide +kernel
theorem dX5_isFree_24 : decode cX5_isFree 24 = .ok (.iconst 1, 1) := by decide +kernel
theorem dX5_isFree_25 : decode cX5_isFree 25 = .ok (.goto 4, 3) := by decide +kernel
theorem dX5_isFree_28 : decode cX5_isFree 28 = .ok (.iconst 0, 1) := by decide +kernel
theorem dX5_isFree_29 : decode cX5_isFree 29 = .ok (.ireturn, 1) := by decide +kernel
theorem dX6_committedWord_0 : decode cX6_committedWord 0 = .ok (.iload_n 1, 1) := by decide +kernel
theorem dX6_committedWord_1 : decode cX6_committedWord 1 = .ok (.ifCond .lt 22, 3) := by decide +kernel
theorem dX6_committedWord_4 : decode cX6_committedWord 4 = .ok (.iload_n 1, 1) := by decide +kernel
theorem dX6_committedWord_5 : decode cX6_committedWord 5 = .ok (.aload_n 0, 1) := by decide +kernel
theorem dX6_committedWord_6 : decode cX6_committedWord 6 = .ok (.getfield 29, 3) := by decide +kernel
theorem dX6_committedWord_9 : decode cX6_committedWord 9 = .ok (.arraylength, 1) := by decide +kernel
theorem dX6_committedWord_10 : decode cX6_committedWord 10 = .ok (.if_icmp .ge 13, 3) := by decide +kernel
theorem dX6_committedWord_13 : decode cX6_committedWord 13 = .ok (.iload_n 2, 1) := by decide +kernel
theorem dX6_committedWord_14 : decode cX6_committedWord 14 = .ok (.ifCond .lt 9, 3) := by decide +kernel
theorem dX6_committedWord_17 : decode cX6_committedWord 17 = .ok (.iload_n 2, 1) := by decide +kernel
theorem dX6_committedWord_18 : decode cX6_committedWord 18 = .ok (.bipush 8, 2) := by decide +kernel
theorem dX6_committedWord_20 : decode cX6_committedWord 20 = .ok (.if_icmp .lt 5, 3) := by decide +kernel
theorem dX6_committedWord_23 : decode cX6_committedWord 23 = .ok (.lconst 0, 1) := by decide +kernel
theorem dX6_committedWord_24 : decode cX6_committedWord 24 = .ok (.lreturn, 1) := by decide +kernel
theorem dX6_committedWord_25 : decode cX6_committedWord 25 = .ok (.aload_n 0, 1) := by decide +kernel
theorem dX6_committedWord_26 : decode cX6_committedWord 26 = .ok (.getfield 9, 3) := by decide +kernel
theorem dX6_committedWord_29 : decode cX6_committedWord 29 = .ok (.getfield 40, 3) := by decide +kernel
theorem dX6_committedWord_32 : decode cX6_committedWord 32 = .ok (.aload_n 0, 1) := by decide +kernel
theorem dX6_committedWord_33 : decode cX6_committedWord 33 = .ok (.getfield 15, 3) := by decide +kernel
theorem dX6_committedWord_36 : decode cX6_committedWord 36 = .ok (.iload_n 1, 1) := by decide +kernel
theorem dX6_committedWord_37 : decode cX6_committedWord 37 = .ok (.invokevirtual 43, 3) := by decide +kernel
theorem dX6_committedWord_40 : decode cX6_committedWord 40 = .ok (.iload_n 2, 1) := by decide +kernel
theorem dX6_committedWord_41 : decode cX6_committedWord 41 = .ok (.iadd, 1) := by decide +kernel
theorem dX6_committedWord_42 : decode cX6_committedWord 42 = .ok (.laload, 1) := by decide +kernel
theorem dX6_committedWord_43 : decode cX6_committedWord 43 = .ok (.lreturn, 1) := by decide +kernel
theorem dX5_wasSet_0 : decode cX5_wasSet 0 = .ok (.aload_n 0, 1) := by decide +kernel
theorem dX5_wasSet_1 : decode cX5_wasSet 1 = .ok (.getfield 9, 3) := by decide +kernel
theorem dX5_wasSet_4 : decode cX5_wasSet 4 = .ok (.bipush 80, 2) := by decide +kernel
theorem dX5_wasSet_6 : decode cX5_wasSet 6 = .ok (.iload_n 1, 1) := by decide +kernel
theorem dX5_wasSet_7 : decode cX5_wasSet 7 = .ok (.sipush 512, 3) := by decide +kernel
theorem dX5_wasSet_10 : decode cX5_wasSet 10 = .ok (.idiv, 1) := by decide +kernel
theorem dX5_wasSet_11 : decode cX5_wasSet 11 = .ok (.iadd, 1) := by decide +kernel
theorem dX5_wasSet_12 : decode cX5_wasSet 12 = .ok (.iload_n 1, 1) := by decide +kernel
theorem dX5_wasSet_13 : decode cX5_wasSet 13 = .ok (.sipush 512, 3) := by decide +kernel
theorem dX5_wasSet_16 : decode cX5_wasSet 16 = .ok (.irem, 1) := by decide +kernel
theorem dX5_wasSet_17 : decode cX5_wasSet 17 = .ok (.bipush 64, 2) := by decide +kernel
theorem dX5_wasSet_19 : decode cX5_wasSet 19 = .ok (.idiv, 1) := by decide +kernel
theorem dX5_wasSet_20 : decode cX5_wasSet 20 = .ok (.invokevirtual 41, 3) := by decide +kernel
theorem dX5_wasSet_23 : decode cX5_wasSet 23 = .ok (.iload_n 1, 1) := by decide +kernel
theorem dX5_wasSet_24 : decode cX5_wasSet 24 = .ok (.bipush 64, 2) := by decide +kernel
theorem dX5_wasSet_26 : decode cX5_wasSet 26 = .ok (.irem, 1) := by decide +kernel
theorem dX5_wasSet_27 : decode cX5_wasSet 27 = .ok (.lushr, 1) := by decide +kernel
theorem dX5_wasSet_28 : decode cX5_wasSet 28 = .ok (.lconst 1, 1) := by decide +kernel
theorem dX5_wasSet_29 : decode cX5_wasSet 29 = .ok (.land, 1) := by decide +kernel
theorem dX5_wasSet_30 : decode cX5_wasSet 30 = .ok (.lconst 0, 1) := by decide +kernel
theorem dX5_wasSet_31 : decode cX5_wasSet 31 = .ok (.lcmp, 1) := by decide +kernel
theorem dX5_wasSet_32 : decode cX5_wasSet 32 = .ok (.ifCond .eq 7, 3) := by decide +kernel
theorem dX5_wasSet_35 : decode cX5_wasSet 35 = .ok (.iconst 1, 1) := by decide +kernel
theorem dX5_wasSet_36 : decode cX5_wasSet 36 = .ok (.goto 4, 3) := by decide +kernel
theorem dX5_wasSet_39 : decode cX5_wasSet 39 = .ok (.iconst 0, 1) := by decide +kernel
theorem dX5_wasSet_40 : decode cX5_wasSet 40 = .ok (.ireturn, 1) := by decide +kernel
theorem dX5_isBandFree_0 : decode cX5_isBandFree 0 = .ok (.iload_n 1, 1) := by decide +kernel
theorem dX5_isBandFree_1 : decode cX5_isBandFree 1 = .ok (.aload_n 0, 1) := by decide +kernel
theorem dX5_isBandFree_2 : decode cX5_isBandFree 2 = .ok (.getfield 25, 3) := by decide +kernel
theorem dX5_isBandFree_5 : decode cX5_isBandFree 5 = .ok (.imul, 1) := by decide +kernel
theorem dX5_isBandFree_6 : decode cX5_isBandFree 6 = .ok (.istore_n 2, 1) := by decide +kernel
theorem dX5_isBandFree_7 : decode cX5_isBandFree 7 = .ok (.iload_n 2, 1) := by decide +kernel
theorem dX5_isBandFree_8 : decode cX5_isBandFree 8 = .ok (.istore_n 3, 1) := by decide +kernel
theorem dX5_isBandFree_9 : decode cX5_isBandFree 9 = .ok (.iload_n 3, 1) := by decide +kernel
theorem dX5_isBandFree_10 : decode cX5_isBandFree 10 = .ok (.iload_n 2, 1) := by decide +kernel
theorem dX5_isBandFree_11 : decode cX5_isBandFree 11 = .ok (.aload_n 0, 1) := by decide +kernel
theorem dX5_isBandFree_12 : decode cX5_isBandFree 12 = .ok (.getfield 25, 3) := by decide +kernel
theorem dX5_isBandFree_15 : decode cX5_isBandFree 15 = .ok (.iadd, 1) := by decide +kernel
theorem dX5_isBandFree_16 : decode cX5_isBandFree 16 = .ok (.if_icmp .ge 27, 3) := by decide +kernel
theorem dX5_isBandFree_19 : decode cX5_isBandFree 19 = .ok (.aload_n 0, 1) := by decide +kernel
theorem dX5_isBandFree_20 : decode cX5_isBandFree 20 = .ok (.iload_n 3, 1) := by decide +kernel
theorem dX5_isBandFree_21 : decode cX5_isBandFree 21 = .ok (.invokevirtual 67, 3) := by decide +kernel
theorem dX5_isBandFree_24 : decode cX5_isBandFree 24 = .ok (.ifCond .eq 11, 3) := by decide +kernel
theorem dX5_isBandFree_27 : decode cX5_isBandFree 27 = .ok (.aload_n 0, 1) := by decide +kernel
theorem dX5_isBandFree_28 : decode cX5_isBandFree 28 = .ok (.iload_n 3, 1) := by decide +kernel
theorem dX5_isBandFree_29 : decode cX5_isBandFree 29 = .ok (.invokevirtual 70, 3) := by decide +kernel
theorem dX5_isBandFree_32 : decode cX5_isBandFree 32 = .ok (.ifCond .eq 5, 3) := by decide +kernel
theorem dX5_isBandFree_35 : decode cX5_isBandFree 35 = .ok (.iconst 0, 1) := by decide +kernel
theorem dX5_isBandFree_36 : decode cX5_isBandFree 36 = .ok (.ireturn, 1) := by decide +kernel
theorem dX5_isBandFree_37 : decode cX5_isBandFree 37 = .ok (.iinc 3 1, 3) := by decide +kernel
theorem dX5_isBandFree_40 : decode cX5_isBandFree 40 = .ok (.goto (-31), 3) := by decide +kernel
theorem dX5_isBandFree_43 : decode cX5_isBandFree 43 = .ok (.iconst 1, 1) := by decide +kernel
theorem dX5_isBandFree_44 : decode cX5_isBandFree 44 = .ok (.ireturn, 1) := by decide +kernel
theorem dX10_bandToLay_0 : decode cX10_bandToLay 0 = .ok (.aload_n 0, 1) := by decide +kernel
theorem dX10_bandToLay_1 : decode cX10_bandToLay 1 = .ok (.getfield 59, 3) := by decide +kernel
theorem dX10_bandToLay_4 : decode cX10_bandToLay 4 = .ok (.getfield 292, 3) := by decide +kernel
theorem dX10_bandToLay_7 : decode cX10_bandToLay 7 = .ok (.arraylength, 1) := by decide +kernel
theorem dX10_bandToLay_8 : decode cX10_bandToLay 8 = .ok (.iconst 1, 1) := by decide +kernel
theorem dX10_bandToLay_9 : decode cX10_bandToLay 9 = .ok (.isub, 1) := by decide +kernel
theorem dX10_bandToLay_10 : decode cX10_bandToLay 10 = .ok (.istore_n 1, 1) := by decide +kernel
theorem dX10_bandToLay_11 : decode cX10_bandToLay 11 = .ok (.iload_n 1, 1) := by decide +kernel
theorem dX10_bandToLay_12 : decode cX10_bandToLay 12 = .ok (.ifCond .lt 33, 3) := by decide +kernel
theorem dX10_bandToLay_15 : decode cX10_bandToLay 15 = .ok (.iload_n 1, 1) := by decide +kernel
theorem dX10_bandToLay_16 : decode cX10_bandToLay 16 = .ok (.aload_n 0, 1) := by decide +kernel
theorem dX10_bandToLay_17 : decode cX10_bandToLay 17 = .ok (.getfield 59, 3) := by decide +kernel
theorem dX10_bandToLay_20 : decode cX10_bandToLay 20 = .ok (.getfield 333, 3) := by decide +kernel
theorem dX10_bandToLay_23 : decode cX10_bandToLay 23 = .ok (.if_icmp .eq 16, 3) := by decide +kernel
theorem dX10_bandToLay_26 : decode cX10_bandToLay 26 = .ok (.aload_n 0, 1) := by decide +kernel
theorem dX10_bandToLay_27 : decode cX10_bandToLay 27 = .ok (.getfield 67, 3) := by decide +kernel
theorem dX10_bandToLay_30 : decode cX10_bandToLay 30 = .ok (.iload_n 1, 1) := by decide +kernel
theorem dX10_bandToLay_31 : decode cX10_bandToLay 31 = .ok (.invokevirtual 364, 3) := by decide +kernel
theorem dX10_bandToLay_34 : decode cX10_bandToLay 34 = .ok (.ifCond .eq 5, 3) := by decide +kernel
theorem dX10_bandToLay_37 : decode cX10_bandToLay 37 = .ok (.iload_n 1, 1) := by decide +kernel
theorem dX10_bandToLay_38 : decode cX10_bandToLay 38 = .ok (.ireturn, 1) := by decide +kernel
theorem dX10_bandToLay_39 : decode cX10_bandToLay 39 = .ok (.iinc 1 (-1), 3) := by decide +kernel
theorem dX10_bandToLay_42 : decode cX10_bandToLay 42 = .ok (.goto (-31), 3) := by decide +kernel
theorem dX10_bandToLay_45 : decode cX10_bandToLay 45 = .ok (.iconst (-1), 1) := by decide +kernel
theorem dX10_bandToLay_46 : decode cX10_bandToLay 46 = .ok (.ireturn, 1) := by decide +kernel
theorem dX7_byteOf_0 : decode cX7_byteOf 0 = .ok (.iload_n 1, 1) := by decide +kernel
theorem dX7_byteOf_1 : decode cX7_byteOf 1 = .ok (.ifCond .lt 29, 3) := by decide +kernel
theorem dX7_byteOf_4 : decode cX7_byteOf 4 = .ok (.iload_n 1, 1) := by decide +kernel
theorem dX7_byteOf_5 : decode cX7_byteOf 5 = .ok (.aload_n 0, 1) := by decide +kernel
theorem dX7_byteOf_6 : decode cX7_byteOf 6 = .ok (.getfield 13, 3) := by decide +kernel
theorem dX7_byteOf_9 : decode cX7_byteOf 9 = .ok (.if_icmp .ge 21, 3) := by decide +kernel
theorem dX7_byteOf_12 : decode cX7_byteOf 12 = .ok (.iload_n 1, 1) := by decide +kernel
theorem dX7_byteOf_13 : decode cX7_byteOf 13 = .ok (.aload_n 0, 1) := by decide +kernel
theorem dX7_byteOf_14 : decode cX7_byteOf 14 = .ok (.getfield 7, 3) := by decide +kernel
theorem dX7_byteOf_17 : decode cX7_byteOf 17 = .ok (.arraylength, 1) := by decide +kernel
theorem dX7_byteOf_18 : decode cX7_byteOf 18 = .ok (.if_icmp .ge 12, 3) := by decide +kernel
theorem dX7_byteOf_21 : decode cX7_byteOf 21 = .ok (.aload_n 0, 1) := by decide +kernel
theorem dX7_byteOf_22 : decode cX7_byteOf 22 = .ok (.getfield 7, 3) := by decide +kernel
theorem dX7_byteOf_25 : decode cX7_byteOf 25 = .ok (.iload_n 1, 1) := by decide +kernel
theorem dX7_byteOf_26 : decode cX7_byteOf 26 = .ok (.iaload, 1) := by decide +kernel
theorem dX7_byteOf_27 : decode cX7_byteOf 27 = .ok (.goto 4, 3) := by decide +kernel
theorem dX7_byteOf_30 : decode cX7_byteOf 30 = .ok (.iconst 0, 1) := by decide +kernel
theorem dX7_byteOf_31 : decode cX7_byteOf 31 = .ok (.ireturn, 1) := by decide +kernel
theorem dX8_fill_0 : decode cX8_fill 0 = .ok (.iconst 0, 1) := by decide +kernel
theorem dX8_fill_1 : decode cX8_fill 1 = .ok (.istore_n 2, 1) := by decide +kernel
theorem dX8_fill_2 : decode cX8_fill 2 = .ok (.iconst 0, 1) := by decide +kernel
theorem dX8_fill_3 : decode cX8_fill 3 = .ok (.istore_n 3, 1) := by decide +kernel
theorem dX8_fill_4 : decode cX8_fill 4 = .ok (.iload_n 3, 1) := by decide +kernel
theorem dX8_fill_5 : decode cX8_fill 5 = .ok (.aload_n 0, 1) := by decide +kernel
theorem dX8_fill_6 : decode cX8_fill 6 = .ok (.getfield 9, 3) := by decide +kernel
theorem dX8_fill_9 : decode cX8_fill 9 = .ok (.getfield 71, 3) := by decide +kernel
theorem dX8_fill_12 : decode cX8_fill 12 = .ok (.if_icmp .ge 119, 3) := by decide +kernel
theorem dX8_fill_15 : decode cX8_fill 15 = .ok (.iconst 0, 1) := by decide +kernel
theorem dX8_fill_16 : decode cX8_fill 16 = .ok (.istore 4, 2) := by decide +kernel
theorem dX8_fill_18 : decode cX8_fill 18 = .ok (.iload 4, 2) := by decide +kernel
theorem dX8_fill_20 : decode cX8_fill 20 = .ok (.bipush 8, 2) := by decide +kernel
theorem dX8_fill_22 : decode cX8_fill 22 = .ok (.if_icmp .ge 72, 3) := by decide +kernel
theorem dX8_fill_25 : decode cX8_fill 25 = .ok (.lconst 0, 1) := by decide +kernel
theorem dX8_fill_26 : decode cX8_fill 26 = .ok (.lstore 5, 2) := by decide +kernel
theorem dX8_fill_28 : decode cX8_fill 28 = .ok (.iconst 0, 1) := by decide +kernel
theorem dX8_fill_29 : decode cX8_fill 29 = .ok (.istore 7, 2) := by decide +kernel
theorem dX8_fill_31 : decode cX8_fill 31 = .ok (.iload 7, 2) := by decide +kernel
theorem dX8_fill_33 : decode cX8_fill 33 = .ok (.bipush 8, 2) := by decide +kernel
theorem dX8_fill_35 : decode cX8_fill 35 = .ok (.if_icmp .ge 44, 3) := by decide +kernel
theorem dX8_fill_38 : decode cX8_fill 38 = .ok (.lload 5, 2) := by decide +kernel
theorem dX8_fill_40 : decode cX8_fill 40 = .ok (.aload_n 1, 1) := by decide +kernel
theorem dX8_fill_41 : decode cX8_fill 41 = .ok (.iload_n 2, 1) := by decide +kernel
theorem dX8_fill_42 : decode cX8_fill 42 = .ok (.invokevirtual 156, 3) := by decide +kernel
theorem dX8_fill_45 : decode cX8_fill 45 = .ok (.i2l, 1) := by decide +kernel
theorem dX8_fill_46 : decode cX8_fill 46 = .ok (.bipush 8, 2) := by decide +kernel
theorem dX8_fill_48 : decode cX8_fill 48 = .ok (.iload 7, 2) := by decide +kernel
theorem dX8_fill_50 : decode cX8_fill 50 = .ok (.imul, 1) := by decide +kernel
theorem dX8_fill_51 : decode cX8_fill 51 = .ok (.lshl, 1) := by decide +kernel
theorem dX8_fill_52 : decode cX8_fill 52 = .ok (.lor, 1) := by decide +kernel
theorem dX8_fill_53 : decode cX8_fill 53 = .ok (.lstore 5, 2) := by decide +kernel
theorem dX8_fill_55 : decode cX8_fill 55 = .ok (.iload_n 2, 1) := by decide +kernel
theorem dX8_fill_56 : decode cX8_fill 56 = .ok (.iconst 1, 1) := by decide +kernel
theorem dX8_fill_57 : decode cX8_fill 57 = .ok (.iadd, 1) := by decide +kernel
theorem dX8_fill_58 : decode cX8_fill 58 = .ok (.aload_n 1, 1) := by decide +kernel
theorem dX8_fill_59 : decode cX8_fill 59 = .ok (.getfield 159, 3) := by decide +kernel
theorem dX8_fill_62 : decode cX8_fill 62 = .ok (.if_icmp .ge 9, 3) := by decide +kernel
theorem dX8_fill_65 : decode cX8_fill 65 = .ok (.iload_n 2, 1) := by decide +kernel
theorem dX8_fill_66 : decode cX8_fill 66 = .ok (.iconst 1, 1) := by decide +kernel
theorem dX8_fill_67 : decode cX8_fill 67 = .ok (.iadd, 1) := by decide +kernel
theorem dX8_fill_68 : decode cX8_fill 68 = .ok (.goto 4, 3) := by decide +kernel
theorem dX8_fill_71 : decode cX8_fill 71 = .ok (.iconst 0, 1) := by decide +kernel
theorem dX8_fill_72 : decode cX8_fill 72 = .ok (.istore_n 2, 1) := by decide +kernel
theorem dX8_fill_73 : decode cX8_fill 73 = .ok (.iinc 7 1, 3) := by decide +kernel
theorem dX8_fill_76 : decode cX8_fill 76 = .ok (.goto (-45), 3) := by decide +kernel
theorem dX8_fill_79 : decode cX8_fill 79 = .ok (.aload_n 0, 1) := by decide +kernel
theorem dX8_fill_80 : decode cX8_fill 80 = .ok (.getfield 40, 3) := by decide +kernel
theorem dX8_fill_83 : decode cX8_fill 83 = .ok (.iload 4, 2) := by decide +kernel
theorem dX8_fill_85 : decode cX8_fill 85 = .ok (.lload 5, 2) := by decide +kernel
theorem dX8_fill_87 : decode cX8_fill 87 = .ok (.lastore, 1) := by decide +kernel
theorem dX8_fill_88 : decode cX8_fill 88 = .ok (.iinc 4 1, 3) := by decide +kernel
theorem dX8_fill_91 : decode cX8_fill 91 = .ok (.goto (-73), 3) := by decide +kernel
theorem dX8_fill_94 : decode cX8_fill 94 = .ok (.aload_n 0, 1) := by decide +kernel
theorem dX8_fill_95 : decode cX8_fill 95 = .ok (.getfield 9, 3) := by decide +kernel
theorem dX8_fill_98 : decode cX8_fill 98 = .ok (.aload_n 0, 1) := by decide +kernel
theorem dX8_fill_99 : decode cX8_fill 99 = .ok (.getfield 62, 3) := by decide +kernel
theorem dX8_fill_102 : decode cX8_fill 102 = .ok (.aload_n 0, 1) := by decide +kernel
theorem dX8_fill_103 : decode cX8_fill 103 = .ok (.getfield 9, 3) := by decide +kernel
theorem dX8_fill_106 : decode cX8_fill 106 = .ok (.getfield 71, 3) := by decide +kernel
theorem dX8_fill_109 : decode cX8_fill 109 = .ok (.imul, 1) := by decide +kernel
theorem dX8_fill_110 : decode cX8_fill 110 = .ok (.iload_n 3, 1) := by decide +kernel
theorem dX8_fill_111 : decode cX8_fill 111 = .ok (.iadd, 1) := by decide +kernel
theorem dX8_fill_112 : decode cX8_fill 112 = .ok (.aload_n 0, 1) := by decide +kernel
theorem dX8_fill_113 : decode cX8_fill 113 = .ok (.getfield 40, 3) := by decide +kernel
theorem dX8_fill_116 : decode cX8_fill 116 = .ok (.iconst 0, 1) := by decide +kernel
theorem dX8_fill_117 : decode cX8_fill 117 = .ok (.invokevirtual 144, 3) := by decide +kernel
theorem dX8_fill_120 : decode cX8_fill 120 = .ok (.ifCond .ne 5, 3) := by decide +kernel
theorem dX8_fill_123 : decode cX8_fill 123 = .ok (.iconst 0, 1) := by decide +kernel
theorem dX8_fill_124 : decode cX8_fill 124 = .ok (.ireturn, 1) := by decide +kernel
theorem dX8_fill_125 : decode cX8_fill 125 = .ok (.iinc 3 1, 3) := by decide +kernel
theorem dX8_fill_128 : decode cX8_fill 128 = .ok (.goto (-124), 3) := by decide +kernel
theorem dX8_fill_131 : decode cX8_fill 131 = .ok (.iconst 1, 1) := by decide +kernel
theorem dX8_fill_132 : decode cX8_fill 132 = .ok (.ireturn, 1) := by decide +kernel
theorem dX8_endStream_0 : decode cX8_endStream 0 = .ok (.aload_n 0, 1) := by decide +kernel
theorem dX8_endStream_1 : decode cX8_endStream 1 = .ok (.getfield 9, 3) := by decide +kernel
theorem dX8_endStream_4 : decode cX8_endStream 4 = .ok (.invokevirtual 131, 3) := by decide +kernel
theorem dX8_endStream_7 : decode cX8_endStream 7 = .ok (.ifCond .ne 5, 3) := by decide +kernel
theorem dX8_endStream_10 : decode cX8_endStream 10 = .ok (.iconst 0, 1) := by decide +kernel
theorem dX8_endStream_11 : decode cX8_endStream 11 = .ok (.ireturn, 1) := by decide +kernel
theorem dX8_endStream_12 : decode cX8_endStream 12 = .ok (.aload_n 0, 1) := by decide +kernel
theorem dX8_endStream_13 : decode cX8_endStream 13 = .ok (.iconst (-1), 1) := by decide +kernel
theorem dX8_endStream_14 : decode cX8_endStream 14 = .ok (.putfield 62, 3) := by decide +kernel
theorem dX8_endStream_17 : decode cX8_endStream 17 = .ok (.aload_n 0, 1) := by decide +kernel
theorem dX8_endStream_18 : decode cX8_endStream 18 = .ok (.aload_n 0, 1) := by decide +kernel
theorem dX8_endStream_19 : decode cX8_endStream 19 = .ok (.invokevirtual 100, 3) := by decide +kernel
theorem dX8_endStream_22 : decode cX8_endStream 22 = .ok (.putfield 68, 3) := by decide +kernel
theorem dX8_endStream_25 : decode cX8_endStream 25 = .ok (.iconst 1, 1) := by decide +kernel
theorem dX8_endStream_26 : decode cX8_endStream 26 = .ok (.ireturn, 1) := by decide +kernel
theorem dX8_stream_0 : decode cX8_stream 0 = .ok (.iload_n 1, 1) := by decide +kernel
theorem dX8_stream_1 : decode cX8_stream 1 = .ok (.ifCond .lt 22, 3) := by decide +kernel
theorem dX8_stream_4 : decode cX8_stream 4 = .ok (.iload_n 1, 1) := by decide +kernel
theorem dX8_stream_5 : decode cX8_stream 5 = .ok (.aload_n 0, 1) := by decide +kernel
theorem dX8_stream_6 : decode cX8_stream 6 = .ok (.getfield 21, 3) := by decide +kernel
theorem dX8_stream_9 : decode cX8_stream 9 = .ok (.arraylength, 1) := by decide +kernel
theorem dX8_stream_10 : decode cX8_stream 10 = .ok (.if_icmp .ge 13, 3) := by decide +kernel
theorem dX8_stream_13 : decode cX8_stream 13 = .ok (.aload_n 0, 1) := by decide +kernel
theorem dX8_stream_14 : decode cX8_stream 14 = .ok (.getfield 9, 3) := by decide +kernel
theorem dX8_stream_17 : decode cX8_stream 17 = .ok (.invokevirtual 131, 3) := by decide +kernel
theorem dX8_stream_20 : decode cX8_stream 20 = .ok (.ifCond .ne 5, 3) := by decide +kernel
theorem dX8_stream_23 : decode cX8_stream 23 = .ok (.iconst 0, 1) := by decide +kernel
theorem dX8_stream_24 : decode cX8_stream 24 = .ok (.ireturn, 1) := by decide +kernel
theorem dX8_stream_25 : decode cX8_stream 25 = .ok (.aload_n 0, 1) := by decide +kernel
theorem dX8_stream_26 : decode cX8_stream 26 = .ok (.getfield 21, 3) := by decide +kernel
theorem dX8_stream_29 : decode cX8_stream 29 = .ok (.iload_n 1, 1) := by decide +kernel
theorem dX8_stream_30 : decode cX8_stream 30 = .ok (.aload_n 0, 1) := by decide +kernel
theorem dX8_stream_31 : decode cX8_stream 31 = .ok (.getfield 65, 3) := by decide +kernel
theorem dX8_stream_34 : decode cX8_stream 34 = .ok (.iastore, 1) := by decide +kernel
theorem dX8_stream_35 : decode cX8_stream 35 = .ok (.aload_n 0, 1) := by decide +kernel
theorem dX8_stream_36 : decode cX8_stream 36 = .ok (.iload_n 1, 1) := by decide +kernel
theorem dX8_stream_37 : decode cX8_stream 37 = .ok (.putfield 62, 3) := by decide +kernel
theorem dX8_stream_40 : decode cX8_stream 40 = .ok (.aload_n 0, 1) := by decide +kernel
theorem dX8_stream_41 : decode cX8_stream 41 = .ok (.aload_n 2, 1) := by decide +kernel
theorem dX8_stream_42 : decode cX8_stream 42 = .ok (.invokevirtual 150, 3) := by decide +kernel
theorem dX8_stream_45 : decode cX8_stream 45 = .ok (.ifCond .eq 14, 3) := by decide +kernel
theorem dX8_stream_48 : decode cX8_stream 48 = .ok (.aload_n 0, 1) := by decide +kernel
theorem dX8_stream_49 : decode cX8_stream 49 = .ok (.invokevirtual 153, 3) := by decide +kernel
theorem dX8_stream_52 : decode cX8_stream 52 = .ok (.ifCond .eq 7, 3) := by decide +kernel
theorem dX8_stream_55 : decode cX8_stream 55 = .ok (.iconst 1, 1) := by decide +kernel
theorem dX8_stream_56 : decode cX8_stream 56 = .ok (.goto 4, 3) := by decide +kernel
theorem dX8_stream_59 : decode cX8_stream 59 = .ok (.iconst 0, 1) := by decide +kernel
theorem dX8_stream_60 : decode cX8_stream 60 = .ok (.ireturn, 1) := by decide +kernel
theorem dX5_takeBand_0 : decode cX5_takeBand 0 = .ok (.iload_n 1, 1) := by decide +kernel
theorem dX5_takeBand_1 : decode cX5_takeBand 1 = .ok (.aload_n 0, 1) := by decide +kernel
theorem dX5_takeBand_2 : decode cX5_takeBand 2 = .ok (.getfield 25, 3) := by decide +kernel
theorem dX5_takeBand_5 : decode cX5_takeBand 5 = .ok (.imul, 1) := by decide +kernel
theorem dX5_takeBand_6 : decode cX5_takeBand 6 = .ok (.istore_n 2, 1) := by decide +kernel
theorem dX5_takeBand_7 : decode cX5_takeBand 7 = .ok (.iload_n 2, 1) := by decide +kernel
theorem dX5_takeBand_8 : decode cX5_takeBand 8 = .ok (.istore_n 3, 1) := by decide +kernel
theorem dX5_takeBand_9 : decode cX5_takeBand 9 = .ok (.iload_n 3, 1) := by decide +kernel
theorem dX5_takeBand_10 : decode cX5_takeBand 10 = .ok (.iload_n 2, 1) := by decide +kernel
theorem dX5_takeBand_11 : decode cX5_takeBand 11 = .ok (.aload_n 0, 1) := by decide +kernel
theorem dX5_takeBand_12 : decode cX5_takeBand 12 = .ok (.getfield 25, 3) := by decide +kernel
theorem dX5_takeBand_15 : decode cX5_takeBand 15 = .ok (.iadd, 1) := by decide +kernel
theorem dX5_takeBand_16 : decode cX5_takeBand 16 = .ok (.if_icmp .ge 64, 3) := by decide +kernel
theorem dX5_takeBand_19 : decode cX5_takeBand 19 = .ok (.iload_n 3, 1) := by decide +kernel
theorem dX5_takeBand_20 : decode cX5_takeBand 20 = .ok (.sipush 512, 3) := by decide +kernel
theorem dX5_takeBand_23 : decode cX5_takeBand 23 = .ok (.irem, 1) := by decide +kernel
theorem dX5_takeBand_24 : decode cX5_takeBand 24 = .ok (.bipush 64, 2) := by decide +kernel
theorem dX5_takeBand_26 : decode cX5_takeBand 26 = .ok (.idiv, 1) := by decide +kernel
theorem dX5_takeBand_27 : decode cX5_takeBand 27 = .ok (.istore 4, 2) := by decide +kernel
theorem dX5_takeBand_29 : decode cX5_takeBand 29 = .ok (.aload_n 0, 1) := by decide +kernel
theorem dX5_takeBand_30 : decode cX5_takeBand 30 = .ok (.getfield 9, 3) := by decide +kernel
theorem dX5_takeBand_33 : decode cX5_takeBand 33 = .ok (.bipush 80, 2) := by decide +kernel
theorem dX5_takeBand_35 : decode cX5_takeBand 35 = .ok (.iload_n 3, 1) := by decide +kernel
theorem dX5_takeBand_36 : decode cX5_takeBand 36 = .ok (.sipush 512, 3) := by decide +kernel
theorem dX5_takeBand_39 : decode cX5_takeBand 39 = .ok (.idiv, 1) := by decide +kernel
theorem dX5_takeBand_40 : decode cX5_takeBand 40 = .ok (.iadd, 1) := by decide +kernel
theorem dX5_takeBand_41 : decode cX5_takeBand 41 = .ok (.iload 4, 2) := by decide +kernel
theorem dX5_takeBand_43 : decode cX5_takeBand 43 = .ok (.invokevirtual 35, 3) := by decide +kernel
theorem dX5_takeBand_46 : decode cX5_takeBand 46 = .ok (.lstore 5, 2) := by decide +kernel
theorem dX5_takeBand_48 : decode cX5_takeBand 48 = .ok (.aload_n 0, 1) := by decide +kernel
theorem dX5_takeBand_49 : decode cX5_takeBand 49 = .ok (.getfield 9, 3) := by decide +kernel
theorem dX5_takeBand_52 : decode cX5_takeBand 52 = .ok (.bipush 80, 2) := by decide +kernel
theorem dX5_takeBand_54 : decode cX5_takeBand 54 = .ok (.iload_n 3, 1) := by decide +kernel
theorem dX5_takeBand_55 : decode cX5_takeBand 55 = .ok (.sipush 512, 3) := by decide +kernel
theorem dX5_takeBand_58 : decode cX5_takeBand 58 = .ok (.idiv, 1) := by decide +kernel
theorem dX5_takeBand_59 : decode cX5_takeBand 59 = .ok (.iadd, 1) := by decide +kernel
theorem dX5_takeBand_60 : decode cX5_takeBand 60 = .ok (.iload 4, 2) := by decide +kernel
theorem dX5_takeBand_62 : decode cX5_takeBand 62 = .ok (.lload 5, 2) := by decide +kernel
theorem dX5_takeBand_64 : decode cX5_takeBand 64 = .ok (.lconst 1, 1) := by decide +kernel
theorem dX5_takeBand_65 : decode cX5_takeBand 65 = .ok (.iload_n 3, 1) := by decide +kernel
theorem dX5_takeBand_66 : decode cX5_takeBand 66 = .ok (.bipush 64, 2) := by decide +kernel
theorem dX5_takeBand_68 : decode cX5_takeBand 68 = .ok (.irem, 1) := by decide +kernel
theorem dX5_takeBand_69 : decode cX5_takeBand 69 = .ok (.lshl, 1) := by decide +kernel
theorem dX5_takeBand_70 : decode cX5_takeBand 70 = .ok (.lor, 1) := by decide +kernel
theorem dX5_takeBand_71 : decode cX5_takeBand 71 = .ok (.invokevirtual 56, 3) := by decide +kernel
theorem dX5_takeBand_74 : decode cX5_takeBand 74 = .ok (.iinc 3 1, 3) := by decide +kernel
theorem dX5_takeBand_77 : decode cX5_takeBand 77 = .ok (.goto (-68), 3) := by decide +kernel
theorem dX5_takeBand_80 : decode cX5_takeBand 80 = .ok (.return_, 1) := by decide +kernel
theorem dX10_enterLaid_0 : decode cX10_enterLaid 0 = .ok (.aload_n 0, 1) := by decide +kernel
theorem dX10_enterLaid_1 : decode cX10_enterLaid 1 = .ok (.iload_n 1, 1) := by decide +kernel
theorem dX10_enterLaid_2 : decode cX10_enterLaid 2 = .ok (.lload_n 2, 1) := by decide +kernel
theorem dX10_enterLaid_3 : decode cX10_enterLaid 3 = .ok (.invokevirtual 345, 3) := by decide +kernel
theorem dX10_enterLaid_6 : decode cX10_enterLaid 6 = .ok (.istore 4, 2) := by decide +kernel
theorem dX10_enterLaid_8 : decode cX10_enterLaid 8 = .ok (.iload 4, 2) := by decide +kernel
theorem dX10_enterLaid_10 : decode cX10_enterLaid 10 = .ok (.ifCond .eq 6, 3) := by decide +kernel
theorem dX10_enterLaid_13 : decode cX10_enterLaid 13 = .ok (.iload 4, 2) := by decide +kernel
theorem dX10_enterLaid_15 : decode cX10_enterLaid 15 = .ok (.ireturn, 1) := by decide +kernel
theorem dX10_enterLaid_16 : decode cX10_enterLaid 16 = .ok (.aload_n 0, 1) := by decide +kernel
theorem dX10_enterLaid_17 : decode cX10_enterLaid 17 = .ok (.getfield 79, 3) := by decide +kernel
theorem dX10_enterLaid_20 : decode cX10_enterLaid 20 = .ok (.getfield 116, 3) := by decide +kernel
theorem dX10_enterLaid_23 : decode cX10_enterLaid 23 = .ok (.ifCond .ne 6, 3) := by decide +kernel
theorem dX10_enterLaid_26 : decode cX10_enterLaid 26 = .ok (.bipush (-15), 2) := by decide +kernel
theorem dX10_enterLaid_28 : decode cX10_enterLaid 28 = .ok (.ireturn, 1) := by decide +kernel
theorem dX10_enterLaid_29 : decode cX10_enterLaid 29 = .ok (.aload_n 0, 1) := by decide +kernel
theorem dX10_enterLaid_30 : decode cX10_enterLaid 30 = .ok (.getfield 71, 3) := by decide +kernel
theorem dX10_enterLaid_33 : decode cX10_enterLaid 33 = .ok (.invokevirtual 348, 3) := by decide +kernel
theorem dX10_enterLaid_36 : decode cX10_enterLaid 36 = .ok (.istore 5, 2) := by decide +kernel
theorem dX10_enterLaid_38 : decode cX10_enterLaid 38 = .ok (.aload_n 0, 1) := by decide +kernel
theorem dX10_enterLaid_39 : decode cX10_enterLaid 39 = .ok (.invokevirtual 354, 3) := by decide +kernel
theorem dX10_enterLaid_42 : decode cX10_enterLaid 42 = .ok (.istore 6, 2) := by decide +kernel
theorem dX10_enterLaid_44 : decode cX10_enterLaid 44 = .ok (.iload 5, 2) := by decide +kernel
theorem dX10_enterLaid_46 : decode cX10_enterLaid 46 = .ok (.iconst (-1), 1) := by decide +kernel
theorem dX10_enterLaid_47 : decode cX10_enterLaid 47 = .ok (.if_icmp .eq 27, 3) := by decide +kernel
theorem dX10_enterLaid_50 : decode cX10_enterLaid 50 = .ok (.iload 6, 2) := by decide +kernel
theorem dX10_enterLaid_52 : decode cX10_enterLaid 52 = .ok (.iconst (-1), 1) := by decide +kernel
theorem dX10_enterLaid_53 : decode cX10_enterLaid 53 = .ok (.if_icmp .eq 21, 3) := by decide +kernel
theorem dX10_enterLaid_56 : decode cX10_enterLaid 56 = .ok (.aload_n 0, 1) := by decide +kernel
theorem dX10_enterLaid_57 : decode cX10_enterLaid 57 = .ok (.getfield 75, 3) := by decide +kernel
theorem dX10_enterLaid_60 : decode cX10_enterLaid 60 = .ok (.iload_n 1, 1) := by decide +kernel
theorem dX10_enterLaid_61 : decode cX10_enterLaid 61 = .ok (.aload_n 0, 1) := by decide +kernel
theorem dX10_enterLaid_62 : decode cX10_enterLaid 62 = .ok (.getfield 53, 3) := by decide +kernel
theorem dX10_enterLaid_65 : decode cX10_enterLaid 65 = .ok (.getfield 85, 3) := by decide +kernel
theorem dX10_enterLaid_68 : decode cX10_enterLaid 68 = .ok (.invokevirtual 158, 3) := by decide +kernel
theorem dX10_enterLaid_71 : decode cX10_enterLaid 71 = .ok (.ifCond .ne 6, 3) := by decide +kernel
theorem dX10_enterLaid_74 : decode cX10_enterLaid 74 = .ok (.bipush (-16), 2) := by decide +kernel
theorem dX10_enterLaid_76 : decode cX10_enterLaid 76 = .ok (.ireturn, 1) := by decide +kernel
theorem dX10_enterLaid_77 : decode cX10_enterLaid 77 = .ok (.aload_n 0, 1) := by decide +kernel
theorem dX10_enterLaid_78 : decode cX10_enterLaid 78 = .ok (.getfield 59, 3) := by decide +kernel
theorem dX10_enterLaid_81 : decode cX10_enterLaid 81 = .ok (.iload 6, 2) := by decide +kernel
theorem dX10_enterLaid_83 : decode cX10_enterLaid 83 = .ok (.aload_n 0, 1) := by decide +kernel
theorem dX10_enterLaid_84 : decode cX10_enterLaid 84 = .ok (.getfield 79, 3) := by decide +kernel
theorem dX10_enterLaid_87 : decode cX10_enterLaid 87 = .ok (.invokevirtual 357, 3) := by decide +kernel
theorem dX10_enterLaid_90 : decode cX10_enterLaid 90 = .ok (.ifCond .ne 6, 3) := by decide +kernel
theorem dX10_enterLaid_93 : decode cX10_enterLaid 93 = .ok (.bipush (-99), 2) := by decide +kernel
theorem dX10_enterLaid_95 : decode cX10_enterLaid 95 = .ok (.ireturn, 1) := by decide +kernel
theorem dX10_enterLaid_96 : decode cX10_enterLaid 96 = .ok (.aload_n 0, 1) := by decide +kernel
theorem dX10_enterLaid_97 : decode cX10_enterLaid 97 = .ok (.getfield 67, 3) := by decide +kernel
theorem dX10_enterLaid_100 : decode cX10_enterLaid 100 = .ok (.iload 6, 2) := by decide +kernel
theorem dX10_enterLaid_102 : decode cX10_enterLaid 102 = .ok (.invokevirtual 361, 3) := by decide +kernel
theorem dX10_enterLaid_105 : decode cX10_enterLaid 105 = .ok (.aload_n 0, 1) := by decide +kernel
theorem dX10_enterLaid_106 : decode cX10_enterLaid 106 = .ok (.getfield 71, 3) := by decide +kernel
theorem dX10_enterLaid_109 : decode cX10_enterLaid 109 = .ok (.iload 5, 2) := by decide +kernel
theorem dX10_enterLaid_111 : decode cX10_enterLaid 111 = .ok (.iconst 3, 1) := by decide +kernel
theorem dX10_enterLaid_112 : decode cX10_enterLaid 112 = .ok (.aload_n 0, 1) := by decide +kernel
theorem dX10_enterLaid_113 : decode cX10_enterLaid 113 = .ok (.getfield 113, 3) := by decide +kernel
theorem dX10_enterLaid_116 : decode cX10_enterLaid 116 = .ok (.bipush 52, 2) := by decide +kernel
theorem dX10_enterLaid_118 : decode cX10_enterLaid 118 = .ok (.invokevirtual 351, 3) := by decide +kernel
theorem dX10_enterLaid_121 : decode cX10_enterLaid 121 = .ok (.aload_n 0, 1) := by decide +kernel
theorem dX10_enterLaid_122 : decode cX10_enterLaid 122 = .ok (.getfield 71, 3) := by decide +kernel
theorem dX10_enterLaid_125 : decode cX10_enterLaid 125 = .ok (.iload 5, 2) := by decide +kernel
theorem dX10_enterLaid_127 : decode cX10_enterLaid 127 = .ok (.iload 6, 2) := by decide +kernel
theorem dX10_enterLaid_129 : decode cX10_enterLaid 129 = .ok (.invokevirtual 134, 3) := by decide +kernel
theorem dX10_enterLaid_132 : decode cX10_enterLaid 132 = .ok (.aload_n 0, 1) := by decide +kernel
theorem dX10_enterLaid_133 : decode cX10_enterLaid 133 = .ok (.getfield 75, 3) := by decide +kernel
theorem dX10_enterLaid_136 : decode cX10_enterLaid 136 = .ok (.iload_n 1, 1) := by decide +kernel
theorem dX10_enterLaid_137 : decode cX10_enterLaid 137 = .ok (.lload_n 2, 1) := by decide +kernel
theorem dX10_enterLaid_138 : decode cX10_enterLaid 138 = .ok (.iload 5, 2) := by decide +kernel
theorem dX10_enterLaid_140 : decode cX10_enterLaid 140 = .ok (.invokevirtual 165, 3) := by decide +kernel
theorem dX10_enterLaid_143 : decode cX10_enterLaid 143 = .ok (.iload 5, 2) := by decide +kernel
theorem dX10_enterLaid_145 : decode cX10_enterLaid 145 = .ok (.ireturn, 1) := by decide +kernel
theorem dX10_lay_0 : decode cX10_lay 0 = .ok (.aload_n 0, 1) := by decide +kernel
theorem dX10_lay_1 : decode cX10_lay 1 = .ok (.getfield 63, 3) := by decide +kernel
theorem dX10_lay_4 : decode cX10_lay 4 = .ok (.bipush 40, 2) := by decide +kernel
theorem dX10_lay_6 : decode cX10_lay 6 = .ok (.invokevirtual 126, 3) := by decide +kernel
theorem dX10_lay_9 : decode cX10_lay 9 = .ok (.ifCond .eq 12, 3) := by decide +kernel
theorem dX10_lay_12 : decode cX10_lay 12 = .ok (.aload_n 0, 1) := by decide +kernel
theorem dX10_lay_13 : decode cX10_lay 13 = .ok (.iload_n 1, 1) := by decide +kernel
theorem dX10_lay_14 : decode cX10_lay 14 = .ok (.lload_n 2, 1) := by decide +kernel
theorem dX10_lay_15 : decode cX10_lay 15 = .ok (.invokevirtual 137, 3) := by decide +kernel
theorem dX10_lay_18 : decode cX10_lay 18 = .ok (.goto 5, 3) := by decide +kernel
theorem dX10_lay_21 : decode cX10_lay 21 = .ok (.bipush (-99), 2) := by decide +kernel
theorem dX10_lay_23 : decode cX10_lay 23 = .ok (.istore 4, 2) := by decide +kernel
theorem dX10_lay_25 : decode cX10_lay 25 = .ok (.aload_n 0, 1) := by decide +kernel
theorem dX10_lay_26 : decode cX10_lay 26 = .ok (.getfield 79, 3) := by decide +kernel
theorem dX10_lay_29 : decode cX10_lay 29 = .ok (.iconst 0, 1) := by decide +kernel
theorem dX10_lay_30 : decode cX10_lay 30 = .ok (.putfield 116, 3) := by decide +kernel
theorem dX10_lay_33 : decode cX10_lay 33 = .ok (.iload 4, 2) := by decide +kernel
theorem dX10_lay_35 : decode cX10_lay 35 = .ok (.ireturn, 1) := by decide +kernel
theorem dX4_setLength_0 : decode cX4_setLength 0 = .ok (.aload_n 0, 1) := by decide +kernel
theorem dX4_setLength_1 : decode cX4_setLength 1 = .ok (.getfield 9, 3) := by decide +kernel
theorem dX4_setLength_4 : decode cX4_setLength 4 = .ok (.aload_n 0, 1) := by decide +kernel
theorem dX4_setLength_5 : decode cX4_setLength 5 = .ok (.getfield 15, 3) := by decide +kernel
theorem dX4_setLength_8 : decode cX4_setLength 8 = .ok (.iload_n 1, 1) := by decide +kernel
theorem dX4_setLength_9 : decode cX4_setLength 9 = .ok (.iadd, 1) := by decide +kernel
theorem dX4_setLength_10 : decode cX4_setLength 10 = .ok (.iconst 0, 1) := by decide +kernel
theorem dX4_setLength_11 : decode cX4_setLength 11 = .ok (.invokevirtual 37, 3) := by decide +kernel
theorem dX4_setLength_14 : decode cX4_setLength 14 = .ok (.ldc2_w 41, 3) := by decide +kernel
theorem dX4_setLength_17 : decode cX4_setLength 17 = .ok (.land, 1) := by decide +kernel
theorem dX4_setLength_18 : decode cX4_setLength 18 = .ok (.lstore_n 3, 1) := by decide +kernel
theorem dX4_setLength_19 : decode cX4_setLength 19 = .ok (.aload_n 0, 1) := by decide +kernel
theorem dX4_setLength_20 : decode cX4_setLength 20 = .ok (.getfield 9, 3) := by decide +kernel
theorem dX4_setLength_23 : decode cX4_setLength 23 = .ok (.aload_n 0, 1) := by decide +kernel
theorem dX4_setLength_24 : decode cX4_setLength 24 = .ok (.getfield 15, 3) := by decide +kernel
theorem dX4_setLength_27 : decode cX4_setLength 27 = .ok (.iload_n 1, 1) := by decide +kernel
theorem dX4_setLength_28 : decode cX4_setLength 28 = .ok (.iadd, 1) := by decide +kernel
theorem dX4_setLength_29 : decode cX4_setLength 29 = .ok (.iconst 0, 1) := by decide +kernel
theorem dX4_setLength_30 : decode cX4_setLength 30 = .ok (.lload_n 3, 1) := by decide +kernel
theorem dX4_setLength_31 : decode cX4_setLength 31 = .ok (.iload_n 2, 1) := by decide +kernel
theorem dX4_setLength_32 : decode cX4_setLength 32 = .ok (.i2l, 1) := by decide +kernel
theorem dX4_setLength_33 : decode cX4_setLength 33 = .ok (.bipush 32, 2) := by decide +kernel
theorem dX4_setLength_35 : decode cX4_setLength 35 = .ok (.lshl, 1) := by decide +kernel
theorem dX4_setLength_36 : decode cX4_setLength 36 = .ok (.lor, 1) := by decide +kernel
theorem dX4_setLength_37 : decode cX4_setLength 37 = .ok (.invokevirtual 43, 3) := by decide +kernel
theorem dX4_setLength_40 : decode cX4_setLength 40 = .ok (.return_, 1) := by decide +kernel
theorem dX6_setOctet_0 : decode cX6_setOctet 0 = .ok (.bipush 8, 2) := by decide +kernel
theorem dX6_setOctet_2 : decode cX6_setOctet 2 = .ok (.iload_n 2, 1) := by decide +kernel
theorem dX6_setOctet_3 : decode cX6_setOctet 3 = .ok (.bipush 8, 2) := by decide +kernel
theorem dX6_setOctet_5 : decode cX6_setOctet 5 = .ok (.irem, 1) := by decide +kernel
theorem dX6_setOctet_6 : decode cX6_setOctet 6 = .ok (.imul, 1) := by decide +kernel
theorem dX6_setOctet_7 : decode cX6_setOctet 7 = .ok (.istore 4, 2) := by decide +kernel
theorem dX6_setOctet_9 : decode cX6_setOctet 9 = .ok (.aload_n 0, 1) := by decide +kernel
theorem dX6_setOctet_10 : decode cX6_setOctet 10 = .ok (.iload_n 1, 1) := by decide +kernel
theorem dX6_setOctet_11 : decode cX6_setOctet 11 = .ok (.iload_n 2, 1) := by decide +kernel
theorem dX6_setOctet_12 : decode cX6_setOctet 12 = .ok (.bipush 8, 2) := by decide +kernel
theorem dX6_setOctet_14 : decode cX6_setOctet 14 = .ok (.idiv, 1) := by decide +kernel
theorem dX6_setOctet_15 : decode cX6_setOctet 15 = .ok (.invokevirtual 58, 3) := by decide +kernel
theorem dX6_setOctet_18 : decode cX6_setOctet 18 = .ok (.ldc2_w 71, 3) := by decide +kernel
theorem dX6_setOctet_21 : decode cX6_setOctet 21 = .ok (.iload 4, 2) := by decide +kernel
theorem dX6_setOctet_23 : decode cX6_setOctet 23 = .ok (.lshl, 1) := by decide +kernel
theorem dX6_setOctet_24 : decode cX6_setOctet 24 = .ok (.ldc2_w 65, 3) := by decide +kernel
theorem dX6_setOctet_27 : decode cX6_setOctet 27 = .ok (.lxor, 1) := by decide +kernel
theorem dX6_setOctet_28 : decode cX6_setOctet 28 = .ok (.land, 1) := by decide +kernel
theorem dX6_setOctet_29 : decode cX6_setOctet 29 = .ok (.lstore 5, 2) := by decide +kernel
theorem dX6_setOctet_31 : decode cX6_setOctet 31 = .ok (.aload_n 0, 1) := by decide +kernel
theorem dX6_setOctet_32 : decode cX6_setOctet 32 = .ok (.iload_n 1, 1) := by decide +kernel
theorem dX6_setOctet_33 : decode cX6_setOctet 33 = .ok (.iload_n 2, 1) := by decide +kernel
theorem dX6_setOctet_34 : decode cX6_setOctet 34 = .ok (.bipush 8, 2) := by decide +kernel
theorem dX6_setOctet_36 : decode cX6_setOctet 36 = .ok (.idiv, 1) := by decide +kernel
theorem dX6_setOctet_37 : decode cX6_setOctet 37 = .ok (.lload 5, 2) := by decide +kernel
theorem dX6_setOctet_39 : decode cX6_setOctet 39 = .ok (.iload_n 3, 1) := by decide +kernel
theorem dX6_setOctet_40 : decode cX6_setOctet 40 = .ok (.i2l, 1) := by decide +kernel
theorem dX6_setOctet_41 : decode cX6_setOctet 41 = .ok (.ldc2_w 71, 3) := by decide +kernel
theorem dX6_setOctet_44 : decode cX6_setOctet 44 = .ok (.land, 1) := by decide +kernel
theorem dX6_setOctet_45 : decode cX6_setOctet 45 = .ok (.iload 4, 2) := by decide +kernel
theorem dX6_setOctet_47 : decode cX6_setOctet 47 = .ok (.lshl, 1) := by decide +kernel
theorem dX6_setOctet_48 : decode cX6_setOctet 48 = .ok (.lor, 1) := by decide +kernel
theorem dX6_setOctet_49 : decode cX6_setOctet 49 = .ok (.invokevirtual 67, 3) := by decide +kernel
theorem dX6_setOctet_52 : decode cX6_setOctet 52 = .ok (.return_, 1) := by decide +kernel
theorem dX4_setText_0 : decode cX4_setText 0 = .ok (.aload_n 2, 1) := by decide +kernel
theorem dX4_setText_1 : decode cX4_setText 1 = .ok (.getfield 53, 3) := by decide +kernel
theorem dX4_setText_4 : decode cX4_setText 4 = .ok (.bipush 40, 2) := by decide +kernel
theorem dX4_setText_6 : decode cX4_setText 6 = .ok (.invokestatic 58, 3) := by decide +kernel
theorem dX4_setText_9 : decode cX4_setText 9 = .ok (.istore_n 3, 1) := by decide +kernel
theorem dX4_setText_10 : decode cX4_setText 10 = .ok (.iconst 0, 1) := by decide +kernel
theorem dX4_setText_11 : decode cX4_setText 11 = .ok (.istore 4, 2) := by decide +kernel
theorem dX4_setText_13 : decode cX4_setText 13 = .ok (.iload 4, 2) := by decide +kernel
theorem dX4_setText_15 : decode cX4_setText 15 = .ok (.iload_n 3, 1) := by decide +kernel
theorem dX4_setText_16 : decode cX4_setText 16 = .ok (.if_icmp .ge 33, 3) := by decide +kernel
theorem dX4_setText_19 : decode cX4_setText 19 = .ok (.aload_n 0, 1) := by decide +kernel
theorem dX4_setText_20 : decode cX4_setText 20 = .ok (.getfield 9, 3) := by decide +kernel
theorem dX4_setText_23 : decode cX4_setText 23 = .ok (.aload_n 0, 1) := by decide +kernel
theorem dX4_setText_24 : decode cX4_setText 24 = .ok (.getfield 15, 3) := by decide +kernel
theorem dX4_setText_27 : decode cX4_setText 27 = .ok (.iload_n 1, 1) := by decide +kernel
theorem dX4_setText_28 : decode cX4_setText 28 = .ok (.iadd, 1) := by decide +kernel
theorem dX4_setText_29 : decode cX4_setText 29 = .ok (.bipush 24, 2) := by decide +kernel
theorem dX4_setText_31 : decode cX4_setText 31 = .ok (.iload 4, 2) := by decide +kernel
theorem dX4_setText_33 : decode cX4_setText 33 = .ok (.iadd, 1) := by decide +kernel
theorem dX4_setText_34 : decode cX4_setText 34 = .ok (.aload_n 2, 1) := by decide +kernel
theorem dX4_setText_35 : decode cX4_setText 35 = .ok (.iload 4, 2) := by decide +kernel
theorem dX4_setText_37 : decode cX4_setText 37 = .ok (.invokevirtual 63, 3) := by decide +kernel
theorem dX4_setText_40 : decode cX4_setText 40 = .ok (.invokevirtual 33, 3) := by decide +kernel
theorem dX4_setText_43 : decode cX4_setText 43 = .ok (.iinc 4 1, 3) := by decide +kernel
theorem dX4_setText_46 : decode cX4_setText 46 = .ok (.goto (-33), 3) := by decide +kernel
theorem dX4_setText_49 : decode cX4_setText 49 = .ok (.aload_n 0, 1) := by decide +kernel
theorem dX4_setText_50 : decode cX4_setText 50 = .ok (.iload_n 1, 1) := by decide +kernel
theorem dX4_setText_51 : decode cX4_setText 51 = .ok (.iload_n 3, 1) := by decide +kernel
theorem dX4_setText_52 : decode cX4_setText 52 = .ok (.invokevirtual 66, 3) := by decide +kernel
theorem dX4_setText_55 : decode cX4_setText 55 = .ok (.return_, 1) := by decide +kernel
theorem dX10_point_0 : decode cX10_point 0 = .ok (.aload_n 0, 1) := by decide +kernel
theorem dX10_point_1 : decode cX10_point 1 = .ok (.getfield 63, 3) := by decide +kernel
theorem dX10_point_4 : decode cX10_point 4 = .ok (.bipush 40, 2) := by decide +kernel
theorem dX10_point_6 : decode cX10_point 6 = .ok (.invokevirtual 126, 3) := by decide +kernel
theorem dX10_point_9 : decode cX10_point 9 = .ok (.ifCond .eq 14, 3) := by decide +kernel
theorem dX10_point_12 : decode cX10_point 12 = .ok (.aload_n 0, 1) := by decide +kernel
theorem dX10_point_13 : decode cX10_point 13 = .ok (.iload_n 1, 1) := by decide +kernel
theorem dX10_point_14 : decode cX10_point 14 = .ok (.lload_n 2, 1) := by decide +kernel
theorem dX10_point_15 : decode cX10_point 15 = .ok (.iconst 4, 1) := by decide +kernel
theorem dX10_point_16 : decode cX10_point 16 = .ok (.iconst 0, 1) := by decide +kernel
theorem dX10_point_17 : decode cX10_point 17 = .ok (.invokevirtual 130, 3) := by decide +kernel
theorem dX10_point_20 : decode cX10_point 20 = .ok (.goto 5, 3) := by decide +kernel
theorem dX10_point_23 : decode cX10_point 23 = .ok (.bipush (-99), 2) := by decide +kernel
theorem dX10_point_25 : decode cX10_point 25 = .ok (.istore 4, 2) := by decide +kernel
theorem dX10_point_27 : decode cX10_point 27 = .ok (.iload 4, 2) := by decide +kernel
theorem dX10_point_29 : decode cX10_point 29 = .ok (.ifCond .lt 16, 3) := by decide +kernel
theorem dX10_point_32 : decode cX10_point 32 = .ok (.aload_n 0, 1) := by decide +kernel
theorem dX10_point_33 : decode cX10_point 33 = .ok (.getfield 71, 3) := by decide +kernel
theorem dX10_point_36 : decode cX10_point 36 = .ok (.iload 4, 2) := by decide +kernel
theorem dX10_point_38 : decode cX10_point 38 = .ok (.aload_n 0, 1) := by decide +kernel
theorem dX10_point_39 : decode cX10_point 39 = .ok (.getfield 79, 3) := by decide +kernel
theorem dX10_point_42 : decode cX10_point 42 = .ok (.invokevirtual 141, 3) := by decide +kernel
theorem dX10_point_45 : decode cX10_point 45 = .ok (.aload_n 0, 1) := by decide +kernel
theorem dX10_point_46 : decode cX10_point 46 = .ok (.getfield 79, 3) := by decide +kernel
theorem dX10_point_49 : decode cX10_point 49 = .ok (.iconst 0, 1) := by decide +kernel
theorem dX10_point_50 : decode cX10_point 50 = .ok (.putfield 116, 3) := by decide +kernel
theorem dX10_point_53 : decode cX10_point 53 = .ok (.iload 4, 2) := by decide +kernel
theorem dX10_point_55 : decode cX10_point 55 = .ok (.ireturn, 1) := by decide +kernel
theorem dX4_hasLinks_0 : decode cX4_hasLinks 0 = .ok (.aload_n 0, 1) := by decide +kernel
theorem dX4_hasLinks_1 : decode cX4_hasLinks 1 = .ok (.iload_n 1, 1) := by decide +kernel
theorem dX4_hasLinks_2 : decode cX4_hasLinks 2 = .ok (.invokevirtual 29, 3) := by decide +kernel
theorem dX4_hasLinks_5 : decode cX4_hasLinks 5 = .ok (.istore_n 2, 1) := by decide +kernel
theorem dX4_hasLinks_6 : decode cX4_hasLinks 6 = .ok (.iload_n 2, 1) := by decide +kernel
theorem dX4_hasLinks_7 : decode cX4_hasLinks 7 = .ok (.iconst 1, 1) := by decide +kernel
theorem dX4_hasLinks_8 : decode cX4_hasLinks 8 = .ok (.if_icmp .eq 8, 3) := by decide +kernel
theorem dX4_hasLinks_11 : decode cX4_hasLinks 11 = .ok (.iload_n 2, 1) := by decide +kernel
theorem dX4_hasLinks_12 : decode cX4_hasLinks 12 = .ok (.iconst 3, 1) := by decide +kernel
theorem dX4_hasLinks_13 : decode cX4_hasLinks 13 = .ok (.if_icmp .ne 7, 3) := by decide +kernel
theorem dX4_hasLinks_16 : decode cX4_hasLinks 16 = .ok (.iconst 1, 1) := by decide +kernel
theorem dX4_hasLinks_17 : decode cX4_hasLinks 17 = .ok (.goto 4, 3) := by decide +kernel
theorem dX4_hasLinks_20 : decode cX4_hasLinks 20 = .ok (.iconst 0, 1) := by decide +kernel
theorem dX4_hasLinks_21 : decode cX4_hasLinks 21 = .ok (.ireturn, 1) := by decide +kernel
theorem dX4_linksOf_0 : decode cX4_linksOf 0 = .ok (.aload_n 0, 1) := by decide +kernel
theorem dX4_linksOf_1 : decode cX4_linksOf 1 = .ok (.getfield 9, 3) := by decide +kernel
theorem dX4_linksOf_4 : decode cX4_linksOf 4 = .ok (.aload_n 0, 1) := by decide +kernel
theorem dX4_linksOf_5 : decode cX4_linksOf 5 = .ok (.getfield 15, 3) := by decide +kernel
theorem dX4_linksOf_8 : decode cX4_linksOf 8 = .ok (.iload_n 1, 1) := by decide +kernel
theorem dX4_linksOf_9 : decode cX4_linksOf 9 = .ok (.iadd, 1) := by decide +kernel
theorem dX4_linksOf_10 : decode cX4_linksOf 10 = .ok (.iconst 3, 1) := by decide +kernel
theorem dX4_linksOf_11 : decode cX4_linksOf 11 = .ok (.invokevirtual 23, 3) := by decide +kernel
theorem dX4_linksOf_14 : decode cX4_linksOf 14 = .ok (.ireturn, 1) := by decide +kernel
theorem dX4_setLinks_0 : decode cX4_setLinks 0 = .ok (.aload_n 0, 1) := by decide +kernel
theorem dX4_setLinks_1 : decode cX4_setLinks 1 = .ok (.getfield 9, 3) := by decide +kernel
theorem dX4_setLinks_4 : decode cX4_setLinks 4 = .ok (.aload_n 0, 1) := by decide +kernel
theorem dX4_setLinks_5 : decode cX4_setLinks 5 = .ok (.getfield 15, 3) := by decide +kernel
theorem dX4_setLinks_8 : decode cX4_setLinks 8 = .ok (.iload_n 1, 1) := by decide +kernel
theorem dX4_setLinks_9 : decode cX4_setLinks 9 = .ok (.iadd, 1) := by decide +kernel
theorem dX4_setLinks_10 : decode cX4_setLinks 10 = .ok (.iconst 3, 1) := by decide +kernel
theorem dX4_setLinks_11 : decode cX4_setLinks 11 = .ok (.iload_n 2, 1) := by decide +kernel
theorem dX4_setLinks_12 : decode cX4_setLinks 12 = .ok (.invokevirtual 33, 3) := by decide +kernel
theorem dX4_setLinks_15 : decode cX4_setLinks 15 = .ok (.return_, 1) := by decide +kernel
theorem dX10_link_0 : decode cX10_link 0 = .ok (.aload_n 0, 1) := by decide +kernel
theorem dX10_link_1 : decode cX10_link 1 = .ok (.getfield 63, 3) := by decide +kernel
theorem dX10_link_4 : decode cX10_link 4 = .ok (.bipush 40, 2) := by decide +kernel
theorem dX10_link_6 : decode cX10_link 6 = .ok (.invokevirtual 126, 3) := by decide +kernel
theorem dX10_link_9 : decode cX10_link 9 = .ok (.ifCond .ne 6, 3) := by decide +kernel
theorem dX10_link_12 : decode cX10_link 12 = .ok (.bipush (-99), 2) := by decide +kernel
theorem dX10_link_14 : decode cX10_link 14 = .ok (.ireturn, 1) := by decide +kernel
theorem dX10_link_15 : decode cX10_link 15 = .ok (.aload_n 0, 1) := by decide +kernel
theorem dX10_link_16 : decode cX10_link 16 = .ok (.iload_n 1, 1) := by decide +kernel
theorem dX10_link_17 : decode cX10_link 17 = .ok (.lload_n 2, 1) := by decide +kernel
theorem dX10_link_18 : decode cX10_link 18 = .ok (.invokevirtual 145, 3) := by decide +kernel
theorem dX10_link_21 : decode cX10_link 21 = .ok (.istore 5, 2) := by decide +kernel
theorem dX10_link_23 : decode cX10_link 23 = .ok (.iload 5, 2) := by decide +kernel
theorem dX10_link_25 : decode cX10_link 25 = .ok (.ifCond .eq 6, 3) := by decide +kernel
theorem dX10_link_28 : decode cX10_link 28 = .ok (.iload 5, 2) := by decide +kernel
theorem dX10_link_30 : decode cX10_link 30 = .ok (.ireturn, 1) := by decide +kernel
theorem dX10_link_31 : decode cX10_link 31 = .ok (.aload_n 0, 1) := by decide +kernel
theorem dX10_link_32 : decode cX10_link 32 = .ok (.getfield 71, 3) := by decide +kernel
theorem dX10_link_35 : decode cX10_link 35 = .ok (.iload 4, 2) := by decide +kernel
theorem dX10_link_37 : decode cX10_link 37 = .ok (.invokevirtual 148, 3) := by decide +kernel
theorem dX10_link_40 : decode cX10_link 40 = .ok (.ifCond .ne 6, 3) := by decide +kernel
theorem dX10_link_43 : decode cX10_link 43 = .ok (.bipush (-14), 2) := by decide +kernel
theorem dX10_link_45 : decode cX10_link 45 = .ok (.ireturn, 1) := by decide +kernel
theorem dX10_link_46 : decode cX10_link 46 = .ok (.aload_n 0, 1) := by decide +kernel
theorem dX10_link_47 : decode cX10_link 47 = .ok (.getfield 75, 3) := by decide +kernel
theorem dX10_link_50 : decode cX10_link 50 = .ok (.iload_n 1, 1) := by decide +kernel
theorem dX10_link_51 : decode cX10_link 51 = .ok (.lload_n 2, 1) := by decide +kernel
theorem dX10_link_52 : decode cX10_link 52 = .ok (.invokevirtual 151, 3) := by decide +kernel
theorem dX10_link_55 : decode cX10_link 55 = .ok (.iconst (-1), 1) := by decide +kernel
theorem dX10_link_56 : decode cX10_link 56 = .ok (.if_icmp .eq 6, 3) := by decide +kernel
theorem dX10_link_59 : decode cX10_link 59 = .ok (.bipush (-13), 2) := by decide +kernel
theorem dX10_link_61 : decode cX10_link 61 = .ok (.ireturn, 1) := by decide +kernel
theorem dX10_link_62 : decode cX10_link 62 = .ok (.aload_n 0, 1) := by decide +kernel
theorem dX10_link_63 : decode cX10_link 63 = .ok (.getfield 71, 3) := by decide +kernel
theorem dX10_link_66 : decode cX10_link 66 = .ok (.iload 4, 2) := by decide +kernel
theorem dX10_link_68 : decode cX10_link 68 = .ok (.invokevirtual 154, 3) := by decide +kernel
theorem dX10_link_71 : decode cX10_link 71 = .ok (.iconst 1, 1) := by decide +kernel
theorem dX10_link_72 : decode cX10_link 72 = .ok (.iadd, 1) := by decide +kernel
theorem dX10_link_73 : decode cX10_link 73 = .ok (.istore 6, 2) := by decide +kernel
theorem dX10_link_75 : decode cX10_link 75 = .ok (.iload 6, 2) := by decide +kernel
theorem dX10_link_77 : decode cX10_link 77 = .ok (.sipush 255, 3) := by decide +kernel
theorem dX10_link_80 : decode cX10_link 80 = .ok (.if_icmp .le 6, 3) := by decide +kernel
theorem dX10_link_83 : decode cX10_link 83 = .ok (.bipush (-15), 2) := by decide +kernel
theorem dX10_link_85 : decode cX10_link 85 = .ok (.ireturn, 1) := by decide +kernel
theorem dX10_link_86 : decode cX10_link 86 = .ok (.aload_n 0, 1) := by decide +kernel
theorem dX10_link_87 : decode cX10_link 87 = .ok (.getfield 75, 3) := by decide +kernel
theorem dX10_link_90 : decode cX10_link 90 = .ok (.iload_n 1, 1) := by decide +kernel
theorem dX10_link_91 : decode cX10_link 91 = .ok (.iconst 0, 1) := by decide +kernel
theorem dX10_link_92 : decode cX10_link 92 = .ok (.invokevirtual 158, 3) := by decide +kernel
theorem dX10_link_95 : decode cX10_link 95 = .ok (.ifCond .ne 6, 3) := by decide +kernel
theorem dX10_link_98 : decode cX10_link 98 = .ok (.bipush (-16), 2) := by decide +kernel
theorem dX10_link_100 : decode cX10_link 100 = .ok (.ireturn, 1) := by decide +kernel
theorem dX10_link_101 : decode cX10_link 101 = .ok (.aload_n 0, 1) := by decide +kernel
theorem dX10_link_102 : decode cX10_link 102 = .ok (.getfield 71, 3) := by decide +kernel
theorem dX10_link_105 : decode cX10_link 105 = .ok (.iload 4, 2) := by decide +kernel
theorem dX10_link_107 : decode cX10_link 107 = .ok (.iload 6, 2) := by decide +kernel
theorem dX10_link_109 : decode cX10_link 109 = .ok (.invokevirtual 162, 3) := by decide +kernel
theorem dX10_link_112 : decode cX10_link 112 = .ok (.aload_n 0, 1) := by decide +kernel
theorem dX10_link_113 : decode cX10_link 113 = .ok (.getfield 75, 3) := by decide +kernel
theorem dX10_link_116 : decode cX10_link 116 = .ok (.iload_n 1, 1) := by decide +kernel
theorem dX10_link_117 : decode cX10_link 117 = .ok (.lload_n 2, 1) := by decide +kernel
theorem dX10_link_118 : decode cX10_link 118 = .ok (.iload 4, 2) := by decide +kernel
theorem dX10_link_120 : decode cX10_link 120 = .ok (.invokevirtual 165, 3) := by decide +kernel
theorem dX10_link_123 : decode cX10_link 123 = .ok (.iload 6, 2) := by decide +kernel
theorem dX10_link_125 : decode cX10_link 125 = .ok (.ireturn, 1) := by decide +kernel
theorem dX4_lengthOf_0 : decode cX4_lengthOf 0 = .ok (.aload_n 0, 1) := by decide +kernel
theorem dX4_lengthOf_1 : decode cX4_lengthOf 1 = .ok (.getfield 9, 3) := by decide +kernel
theorem dX4_lengthOf_4 : decode cX4_lengthOf 4 = .ok (.aload_n 0, 1) := by decide +kernel
theorem dX4_lengthOf_5 : decode cX4_lengthOf 5 = .ok (.getfield 15, 3) := by decide +kernel
theorem dX4_lengthOf_8 : decode cX4_lengthOf 8 = .ok (.iload_n 1, 1) := by decide +kernel
theorem dX4_lengthOf_9 : decode cX4_lengthOf 9 = .ok (.iadd, 1) := by decide +kernel
theorem dX4_lengthOf_10 : decode cX4_lengthOf 10 = .ok (.iconst 0, 1) := by decide +kernel
theorem dX4_lengthOf_11 : decode cX4_lengthOf 11 = .ok (.invokevirtual 37, 3) := by decide +kernel
theorem dX4_lengthOf_14 : decode cX4_lengthOf 14 = .ok (.bipush 32, 2) := by decide +kernel
theorem dX4_lengthOf_16 : decode cX4_lengthOf 16 = .ok (.lushr, 1) := by decide +kernel
theorem dX4_lengthOf_17 : decode cX4_lengthOf 17 = .ok (.l2i, 1) := by decide +kernel
theorem dX4_lengthOf_18 : decode cX4_lengthOf 18 = .ok (.ireturn, 1) := by decide +kernel
theorem dX0_byteCount_0 : decode cX0_byteCount 0 = .ok (.aload_n 0, 1) := by decide +kernel
theorem dX0_byteCount_1 : decode cX0_byteCount 1 = .ok (.getfield 19, 3) := by decide +kernel
theorem dX0_byteCount_4 : decode cX0_byteCount 4 = .ok (.iload_n 1, 1) := by decide +kernel
theorem dX0_byteCount_5 : decode cX0_byteCount 5 = .ok (.invokevirtual 27, 3) := by decide +kernel
theorem dX0_byteCount_8 : decode cX0_byteCount 8 = .ok (.iconst 3, 1) := by decide +kernel
theorem dX0_byteCount_9 : decode cX0_byteCount 9 = .ok (.if_icmp .ne 13, 3) := by decide +kernel
theorem dX0_byteCount_12 : decode cX0_byteCount 12 = .ok (.bipush 64, 2) := by decide +kernel
theorem dX0_byteCount_14 : decode cX0_byteCount 14 = .ok (.aload_n 0, 1) := by decide +kernel
theorem dX0_byteCount_15 : decode cX0_byteCount 15 = .ok (.getfield 23, 3) := by decide +kernel
theorem dX0_byteCount_18 : decode cX0_byteCount 18 = .ok (.imul, 1) := by decide +kernel
theorem dX0_byteCount_19 : decode cX0_byteCount 19 = .ok (.goto 11, 3) := by decide +kernel
theorem dX0_byteCount_22 : decode cX0_byteCount 22 = .ok (.aload_n 0, 1) := by decide +kernel
theorem dX0_byteCount_23 : decode cX0_byteCount 23 = .ok (.getfield 19, 3) := by decide +kernel
theorem dX0_byteCount_26 : decode cX0_byteCount 26 = .ok (.iload_n 1, 1) := by decide +kernel
theorem dX0_byteCount_27 : decode cX0_byteCount 27 = .ok (.invokevirtual 33, 3) := by decide +kernel
theorem dX0_byteCount_30 : decode cX0_byteCount 30 = .ok (.ireturn, 1) := by decide +kernel
theorem dX0_takeTold_0 : decode cX0_takeTold 0 = .ok (.aload_n 0, 1) := by decide +kernel
theorem dX0_takeTold_1 : decode cX0_takeTold 1 = .ok (.getfield 11, 3) := by decide +kernel
theorem dX0_takeTold_4 : decode cX0_takeTold 4 = .ok (.iload_n 1, 1) := by decide +kernel
theorem dX0_takeTold_5 : decode cX0_takeTold 5 = .ok (.iload_n 2, 1) := by decide +kernel
theorem dX0_takeTold_6 : decode cX0_takeTold 6 = .ok (.invokevirtual 54, 3) := by decide +kernel
theorem dX0_takeTold_9 : decode cX0_takeTold 9 = .ok (.istore_n 3, 1) := by decide +kernel
theorem dX0_takeTold_10 : decode cX0_takeTold 10 = .ok (.iload_n 3, 1) := by decide +kernel
theorem dX0_takeTold_11 : decode cX0_takeTold 11 = .ok (.ifCond .ne 21, 3) := by decide +kernel
theorem dX0_takeTold_14 : decode cX0_takeTold 14 = .ok (.aload_n 0, 1) := by decide +kernel
theorem dX0_takeTold_15 : decode cX0_takeTold 15 = .ok (.getfield 15, 3) := by decide +kernel
theorem dX0_takeTold_18 : decode cX0_takeTold 18 = .ok (.invokevirtual 82, 3) := by decide +kernel
theorem dX0_takeTold_21 : decode cX0_takeTold 21 = .ok (.istore_n 3, 1) := by decide +kernel
theorem dX0_takeTold_22 : decode cX0_takeTold 22 = .ok (.aload_n 0, 1) := by decide +kernel
theorem dX0_takeTold_23 : decode cX0_takeTold 23 = .ok (.getfield 11, 3) := by decide +kernel
theorem dX0_takeTold_26 : decode cX0_takeTold 26 = .ok (.iload_n 1, 1) := by decide +kernel
theorem dX0_takeTold_27 : decode cX0_takeTold 27 = .ok (.iload_n 2, 1) := by decide +kernel
theorem dX0_takeTold_28 : decode cX0_takeTold 28 = .ok (.iload_n 3, 1) := by decide +kernel
theorem dX0_takeTold_29 : decode cX0_takeTold 29 = .ok (.invokevirtual 88, 3) := by decide +kernel
theorem dX0_takeTold_32 : decode cX0_takeTold 32 = .ok (.iload_n 3, 1) := by decide +kernel
theorem dX0_takeTold_33 : decode cX0_takeTold 33 = .ok (.ireturn, 1) := by decide +kernel
theorem dX0_takePiece_0 : decode cX0_takePiece 0 = .ok (.aload_n 0, 1) := by decide +kernel
theorem dX0_takePiece_1 : decode cX0_takePiece 1 = .ok (.getfield 19, 3) := by decide +kernel
theorem dX0_takePiece_4 : decode cX0_takePiece 4 = .ok (.iload_n 1, 1) := by decide +kernel
theorem dX0_takePiece_5 : decode cX0_takePiece 5 = .ok (.invokevirtual 36, 3) := by decide +kernel
theorem dX0_takePiece_8 : decode cX0_takePiece 8 = .ok (.istore_n 3, 1) := by decide +kernel
theorem dX0_takePiece_9 : decode cX0_takePiece 9 = .ok (.iload_n 2, 1) := by decide +kernel
theorem dX0_takePiece_10 : decode cX0_takePiece 10 = .ok (.bipush 12, 2) := by decide +kernel
theorem dX0_takePiece_12 : decode cX0_takePiece 12 = .ok (.if_icmp .ge 12, 3) := by decide +kernel
theorem dX0_takePiece_15 : decode cX0_takePiece 15 = .ok (.aload_n 0, 1) := by decide +kernel
theorem dX0_takePiece_16 : decode cX0_takePiece 16 = .ok (.iload_n 3, 1) := by decide +kernel
theorem dX0_takePiece_17 : decode cX0_takePiece 17 = .ok (.iconst 4, 1) := by decide +kernel
theorem dX0_takePiece_18 : decode cX0_takePiece 18 = .ok (.iload_n 2, 1) := by decide +kernel
theorem dX0_takePiece_19 : decode cX0_takePiece 19 = .ok (.iadd, 1) := by decide +kernel
theorem dX0_takePiece_20 : decode cX0_takePiece 20 = .ok (.invokevirtual 79, 3) := by decide +kernel
theorem dX0_takePiece_23 : decode cX0_takePiece 23 = .ok (.ireturn, 1) := by decide +kernel
theorem dX0_takePiece_24 : decode cX0_takePiece 24 = .ok (.iload_n 2, 1) := by decide +kernel
theorem dX0_takePiece_25 : decode cX0_takePiece 25 = .ok (.bipush 44, 2) := by decide +kernel
theorem dX0_takePiece_27 : decode cX0_takePiece 27 = .ok (.if_icmp .ge 19, 3) := by decide +kernel
theorem dX0_takePiece_30 : decode cX0_takePiece 30 = .ok (.aload_n 0, 1) := by decide +kernel
theorem dX0_takePiece_31 : decode cX0_takePiece 31 = .ok (.aload_n 0, 1) := by decide +kernel
theorem dX0_takePiece_32 : decode cX0_takePiece 32 = .ok (.iload_n 3, 1) := by decide +kernel
theorem dX0_takePiece_33 : decode cX0_takePiece 33 = .ok (.bipush 16, 2) := by decide +kernel
theorem dX0_takePiece_35 : decode cX0_takePiece 35 = .ok (.invokevirtual 79, 3) := by decide +kernel
theorem dX0_takePiece_38 : decode cX0_takePiece 38 = .ok (.iload_n 2, 1) := by decide +kernel
theorem dX0_takePiece_39 : decode cX0_takePiece 39 = .ok (.bipush 12, 2) := by decide +kernel
theorem dX0_takePiece_41 : decode cX0_takePiece 41 = .ok (.isub, 1) := by decide +kernel
theorem dX0_takePiece_42 : decode cX0_takePiece 42 = .ok (.invokevirtual 79, 3) := by decide +kernel
theorem dX0_takePiece_45 : decode cX0_takePiece 45 = .ok (.ireturn, 1) := by decide +kernel
theorem dX0_takePiece_46 : decode cX0_takePiece 46 = .ok (.iload_n 2, 1) := by decide +kernel
theorem dX0_takePiece_47 : decode cX0_takePiece 47 = .ok (.bipush 44, 2) := by decide +kernel
theorem dX0_takePiece_49 : decode cX0_takePiece 49 = .ok (.isub, 1) := by decide +kernel
theorem dX0_takePiece_50 : decode cX0_takePiece 50 = .ok (.istore 4, 2) := by decide +kernel
theorem dX0_takePiece_52 : decode cX0_takePiece 52 = .ok (.aload_n 0, 1) := by decide +kernel
theorem dX0_takePiece_53 : decode cX0_takePiece 53 = .ok (.aload_n 0, 1) := by decide +kernel
theorem dX0_takePiece_54 : decode cX0_takePiece 54 = .ok (.aload_n 0, 1) := by decide +kernel
theorem dX0_takePiece_55 : decode cX0_takePiece 55 = .ok (.iload_n 3, 1) := by decide +kernel
theorem dX0_takePiece_56 : decode cX0_takePiece 56 = .ok (.bipush 17, 2) := by decide +kernel
theorem dX0_takePiece_58 : decode cX0_takePiece 58 = .ok (.invokevirtual 79, 3) := by decide +kernel
theorem dX0_takePiece_61 : decode cX0_takePiece 61 = .ok (.iload 4, 2) := by decide +kernel
theorem dX0_takePiece_63 : decode cX0_takePiece 63 = .ok (.bipush 32, 2) := by decide +kernel
theorem dX0_takePiece_65 : decode cX0_takePiece 65 = .ok (.idiv, 1) := by decide +kernel
theorem dX0_takePiece_66 : decode cX0_takePiece 66 = .ok (.invokevirtual 79, 3) := by decide +kernel
theorem dX0_takePiece_69 : decode cX0_takePiece 69 = .ok (.iload 4, 2) := by decide +kernel
theorem dX0_takePiece_71 : decode cX0_takePiece 71 = .ok (.bipush 32, 2) := by decide +kernel
theorem dX0_takePiece_73 : decode cX0_takePiece 73 = .ok (.irem, 1) := by decide +kernel
theorem dX0_takePiece_74 : decode cX0_takePiece 74 = .ok (.invokevirtual 79, 3) := by decide +kernel
theorem dX0_takePiece_77 : decode cX0_takePiece 77 = .ok (.ireturn, 1) := by decide +kernel
theorem dX4_holderOf_0 : decode cX4_holderOf 0 = .ok (.aload_n 0, 1) := by decide +kernel
theorem dX4_holderOf_1 : decode cX4_holderOf 1 = .ok (.getfield 9, 3) := by decide +kernel
theorem dX4_holderOf_4 : decode cX4_holderOf 4 = .ok (.aload_n 0, 1) := by decide +kernel
theorem dX4_holderOf_5 : decode cX4_holderOf 5 = .ok (.getfield 15, 3) := by decide +kernel
theorem dX4_holderOf_8 : decode cX4_holderOf 8 = .ok (.iload_n 1, 1) := by decide +kernel
theorem dX4_holderOf_9 : decode cX4_holderOf 9 = .ok (.iadd, 1) := by decide +kernel
theorem dX4_holderOf_10 : decode cX4_holderOf 10 = .ok (.bipush 18, 2) := by decide +kernel
theorem dX4_holderOf_12 : decode cX4_holderOf 12 = .ok (.invokevirtual 47, 3) := by decide +kernel
theorem dX4_holderOf_15 : decode cX4_holderOf 15 = .ok (.ireturn, 1) := by decide +kernel
theorem dX0_laidBlock_0 : decode cX0_laidBlock 0 = .ok (.iload_n 2, 1) := by decide +kernel
theorem dX0_laidBlock_1 : decode cX0_laidBlock 1 = .ok (.ifCond .lt 11, 3) := by decide +kernel
theorem dX0_laidBlock_4 : decode cX0_laidBlock 4 = .ok (.iload_n 2, 1) := by decide +kernel
theorem dX0_laidBlock_5 : decode cX0_laidBlock 5 = .ok (.aload_n 0, 1) := by decide +kernel
theorem dX0_laidBlock_6 : decode cX0_laidBlock 6 = .ok (.getfield 23, 3) := by decide +kernel
theorem dX0_laidBlock_9 : decode cX0_laidBlock 9 = .ok (.if_icmp .lt 7, 3) := by decide +kernel
theorem dX0_laidBlock_12 : decode cX0_laidBlock 12 = .ok (.iconst 0, 1) := by decide +kernel
theorem dX0_laidBlock_13 : decode cX0_laidBlock 13 = .ok (.goto 18, 3) := by decide +kernel
theorem dX0_laidBlock_16 : decode cX0_laidBlock 16 = .ok (.aload_n 0, 1) := by decide +kernel
theorem dX0_laidBlock_17 : decode cX0_laidBlock 17 = .ok (.getfield 19, 3) := by decide +kernel
theorem dX0_laidBlock_20 : decode cX0_laidBlock 20 = .ok (.iload_n 1, 1) := by decide +kernel
theorem dX0_laidBlock_21 : decode cX0_laidBlock 21 = .ok (.invokevirtual 51, 3) := by decide +kernel
theorem dX0_laidBlock_24 : decode cX0_laidBlock 24 = .ok (.aload_n 0, 1) := by decide +kernel
theorem dX0_laidBlock_25 : decode cX0_laidBlock 25 = .ok (.getfield 23, 3) := by decide +kernel
theorem dX0_laidBlock_28 : decode cX0_laidBlock 28 = .ok (.imul, 1) := by decide +kernel
theorem dX0_laidBlock_29 : decode cX0_laidBlock 29 = .ok (.iload_n 2, 1) := by decide +kernel
theorem dX0_laidBlock_30 : decode cX0_laidBlock 30 = .ok (.iadd, 1) := by decide +kernel
theorem dX0_laidBlock_31 : decode cX0_laidBlock 31 = .ok (.ireturn, 1) := by decide +kernel
theorem dX0_write_0 : decode cX0_write 0 = .ok (.aload_n 0, 1) := by decide +kernel
theorem dX0_write_1 : decode cX0_write 1 = .ok (.getfield 19, 3) := by decide +kernel
theorem dX0_write_4 : decode cX0_write 4 = .ok (.iload_n 1, 1) := by decide +kernel
theorem dX0_write_5 : decode cX0_write 5 = .ok (.invokevirtual 27, 3) := by decide +kernel
theorem dX0_write_8 : decode cX0_write 8 = .ok (.iconst 3, 1) := by decide +kernel
theorem dX0_write_9 : decode cX0_write 9 = .ok (.if_icmp .ne 7, 3) := by decide +kernel
theorem dX0_write_12 : decode cX0_write 12 = .ok (.iconst 1, 1) := by decide +kernel
theorem dX0_write_13 : decode cX0_write 13 = .ok (.goto 4, 3) := by decide +kernel
theorem dX0_write_16 : decode cX0_write 16 = .ok (.iconst 0, 1) := by decide +kernel
theorem dX0_write_17 : decode cX0_write 17 = .ok (.istore 4, 2) := by decide +kernel
theorem dX0_write_19 : decode cX0_write 19 = .ok (.iconst 0, 1) := by decide +kernel
theorem dX0_write_20 : decode cX0_write 20 = .ok (.istore 5, 2) := by decide +kernel
theorem dX0_write_22 : decode cX0_write 22 = .ok (.iconst 0, 1) := by decide +kernel
theorem dX0_write_23 : decode cX0_write 23 = .ok (.istore 6, 2) := by decide +kernel
theorem dX0_write_25 : decode cX0_write 25 = .ok (.iload 6, 2) := by decide +kernel
theorem dX0_write_27 : decode cX0_write 27 = .ok (.aload_n 3, 1) := by decide +kernel
theorem dX0_write_28 : decode cX0_write 28 = .ok (.getfield 60, 3) := by decide +kernel
theorem dX0_write_31 : decode cX0_write 31 = .ok (.if_icmp .ge 78, 3) := by decide +kernel
theorem dX0_write_34 : decode cX0_write 34 = .ok (.iload_n 2, 1) := by decide +kernel
theorem dX0_write_35 : decode cX0_write 35 = .ok (.iload 6, 2) := by decide +kernel
theorem dX0_write_37 : decode cX0_write 37 = .ok (.iadd, 1) := by decide +kernel
theorem dX0_write_38 : decode cX0_write 38 = .ok (.bipush 64, 2) := by decide +kernel
theorem dX0_write_40 : decode cX0_write 40 = .ok (.irem, 1) := by decide +kernel
theorem dX0_write_41 : decode cX0_write 41 = .ok (.istore 7, 2) := by decide +kernel
theorem dX0_write_43 : decode cX0_write 43 = .ok (.iload 6, 2) := by decide +kernel
theorem dX0_write_45 : decode cX0_write 45 = .ok (.ifCond .eq 8, 3) := by decide +kernel
theorem dX0_write_48 : decode cX0_write 48 = .ok (.iload 7, 2) := by decide +kernel
theorem dX0_write_50 : decode cX0_write 50 = .ok (.ifCond .ne 36, 3) := by decide +kernel
theorem dX0_write_53 : decode cX0_write 53 = .ok (.iload_n 2, 1) := by decide +kernel
theorem dX0_write_54 : decode cX0_write 54 = .ok (.iload 6, 2) := by decide +kernel
theorem dX0_write_56 : decode cX0_write 56 = .ok (.iadd, 1) := by decide +kernel
theorem dX0_write_57 : decode cX0_write 57 = .ok (.bipush 64, 2) := by decide +kernel
theorem dX0_write_59 : decode cX0_write 59 = .ok (.idiv, 1) := by decide +kernel
theorem dX0_write_60 : decode cX0_write 60 = .ok (.istore 8, 2) := by decide +kernel
theorem dX0_write_62 : decode cX0_write 62 = .ok (.iload 4, 2) := by decide +kernel
theorem dX0_write_64 : decode cX0_write 64 = .ok (.ifCond .eq 13, 3) := by decide +kernel
theorem dX0_write_67 : decode cX0_write 67 = .ok (.aload_n 0, 1) := by decide +kernel
theorem dX0_write_68 : decode cX0_write 68 = .ok (.iload_n 1, 1) := by decide +kernel
theorem dX0_write_69 : decode cX0_write 69 = .ok (.iload 8, 2) := by decide +kernel
theorem dX0_write_71 : decode cX0_write 71 = .ok (.invokevirtual 45, 3) := by decide +kernel
theorem dX0_write_74 : decode cX0_write 74 = .ok (.goto 10, 3) := by decide +kernel
theorem dX0_write_77 : decode cX0_write 77 = .ok (.aload_n 0, 1) := by decide +kernel
theorem dX0_write_78 : decode cX0_write 78 = .ok (.iload_n 1, 1) := by decide +kernel
theorem dX0_write_79 : decode cX0_write 79 = .ok (.iload 8, 2) := by decide +kernel
theorem dX0_write_81 : decode cX0_write 81 = .ok (.invokevirtual 65, 3) := by decide +kernel
theorem dX0_write_84 : decode cX0_write 84 = .ok (.istore 5, 2) := by decide +kernel
theorem dX0_write_86 : decode cX0_write 86 = .ok (.aload_n 0, 1) := by decide +kernel
theorem dX0_write_87 : decode cX0_write 87 = .ok (.getfield 11, 3) := by decide +kernel
theorem dX0_write_90 : decode cX0_write 90 = .ok (.iload 5, 2) := by decide +kernel
theorem dX0_write_92 : decode cX0_write 92 = .ok (.iload 7, 2) := by decide +kernel
theorem dX0_write_94 : decode cX0_write 94 = .ok (.aload_n 3, 1) := by decide +kernel
theorem dX0_write_95 : decode cX0_write 95 = .ok (.iload 6, 2) := by decide +kernel
theorem dX0_write_97 : decode cX0_write 97 = .ok (.invokevirtual 68, 3) := by decide +kernel
theorem dX0_write_100 : decode cX0_write 100 = .ok (.invokevirtual 71, 3) := by decide +kernel
theorem dX0_write_103 : decode cX0_write 103 = .ok (.iinc 6 1, 3) := by decide +kernel
theorem dX0_write_106 : decode cX0_write 106 = .ok (.goto (-81), 3) := by decide +kernel
theorem dX0_write_109 : decode cX0_write 109 = .ok (.iload 4, 2) := by decide +kernel
theorem dX0_write_111 : decode cX0_write 111 = .ok (.ifCond .ne 34, 3) := by decide +kernel
theorem dX0_write_114 : decode cX0_write 114 = .ok (.iload_n 2, 1) := by decide +kernel
theorem dX0_write_115 : decode cX0_write 115 = .ok (.aload_n 3, 1) := by decide +kernel
theorem dX0_write_116 : decode cX0_write 116 = .ok (.getfield 60, 3) := by decide +kernel
theorem dX0_write_119 : decode cX0_write 119 = .ok (.iadd, 1) := by decide +kernel
theorem dX0_write_120 : decode cX0_write 120 = .ok (.aload_n 0, 1) := by decide +kernel
theorem dX0_write_121 : decode cX0_write 121 = .ok (.getfield 19, 3) := by decide +kernel
theorem dX0_write_124 : decode cX0_write 124 = .ok (.iload_n 1, 1) := by decide +kernel
theorem dX0_write_125 : decode cX0_write 125 = .ok (.invokevirtual 33, 3) := by decide +kernel
theorem dX0_write_128 : decode cX0_write 128 = .ok (.if_icmp .le 17, 3) := by decide +kernel
theorem dX0_write_131 : decode cX0_write 131 = .ok (.aload_n 0, 1) := by decide +kernel
theorem dX0_write_132 : decode cX0_write 132 = .ok (.getfield 19, 3) := by decide +kernel
theorem dX0_write_135 : decode cX0_write 135 = .ok (.iload_n 1, 1) := by decide +kernel
theorem dX0_write_136 : decode cX0_write 136 = .ok (.iload_n 2, 1) := by decide +kernel
theorem dX0_write_137 : decode cX0_write 137 = .ok (.aload_n 3, 1) := by decide +kernel
theorem dX0_write_138 : decode cX0_write 138 = .ok (.getfield 60, 3) := by decide +kernel
theorem dX0_write_141 : decode cX0_write 141 = .ok (.iadd, 1) := by decide +kernel
theorem dX0_write_142 : decode cX0_write 142 = .ok (.invokevirtual 75, 3) := by decide +kernel
theorem dX0_write_145 : decode cX0_write 145 = .ok (.return_, 1) := by decide +kernel
theorem dX0_farIndex_0 : decode cX0_farIndex 0 = .ok (.iload_n 2, 1) := by decide +kernel
theorem dX0_farIndex_1 : decode cX0_farIndex 1 = .ok (.ifCond .lt 9, 3) := by decide +kernel
theorem dX0_farIndex_4 : decode cX0_farIndex 4 = .ok (.iload_n 2, 1) := by decide +kernel
theorem dX0_farIndex_5 : decode cX0_farIndex 5 = .ok (.bipush 32, 2) := by decide +kernel
theorem dX0_farIndex_7 : decode cX0_farIndex 7 = .ok (.if_icmp .lt 7, 3) := by decide +kernel
theorem dX0_farIndex_10 : decode cX0_farIndex 10 = .ok (.iconst 0, 1) := by decide +kernel
theorem dX0_farIndex_11 : decode cX0_farIndex 11 = .ok (.goto 28, 3) := by decide +kernel
theorem dX0_farIndex_14 : decode cX0_farIndex 14 = .ok (.aload_n 0, 1) := by decide +kernel
theorem dX0_farIndex_15 : decode cX0_farIndex 15 = .ok (.getfield 11, 3) := by decide +kernel
theorem dX0_farIndex_18 : decode cX0_farIndex 18 = .ok (.aload_n 0, 1) := by decide +kernel
theorem dX0_farIndex_19 : decode cX0_farIndex 19 = .ok (.getfield 11, 3) := by decide +kernel
theorem dX0_farIndex_22 : decode cX0_farIndex 22 = .ok (.aload_n 0, 1) := by decide +kernel
theorem dX0_farIndex_23 : decode cX0_farIndex 23 = .ok (.getfield 19, 3) := by decide +kernel
theorem dX0_farIndex_26 : decode cX0_farIndex 26 = .ok (.iload_n 1, 1) := by decide +kernel
theorem dX0_farIndex_27 : decode cX0_farIndex 27 = .ok (.invokevirtual 36, 3) := by decide +kernel
theorem dX0_farIndex_30 : decode cX0_farIndex 30 = .ok (.bipush 17, 2) := by decide +kernel
theorem dX0_farIndex_32 : decode cX0_farIndex 32 = .ok (.invokevirtual 54, 3) := by decide +kernel
theorem dX0_farIndex_35 : decode cX0_farIndex 35 = .ok (.iload_n 2, 1) := by decide +kernel
theorem dX0_farIndex_36 : decode cX0_farIndex 36 = .ok (.invokevirtual 54, 3) := by decide +kernel
theorem dX0_farIndex_39 : decode cX0_farIndex 39 = .ok (.ireturn, 1) := by decide +kernel
theorem dX0_pieceBlock_0 : decode cX0_pieceBlock 0 = .ok (.aload_n 0, 1) := by decide +kernel
theorem dX0_pieceBlock_1 : decode cX0_pieceBlock 1 = .ok (.getfield 19, 3) := by decide +kernel
theorem dX0_pieceBlock_4 : decode cX0_pieceBlock 4 = .ok (.iload_n 1, 1) := by decide +kernel
theorem dX0_pieceBlock_5 : decode cX0_pieceBlock 5 = .ok (.invokevirtual 36, 3) := by decide +kernel
theorem dX0_pieceBlock_8 : decode cX0_pieceBlock 8 = .ok (.istore_n 3, 1) := by decide +kernel
theorem dX0_pieceBlock_9 : decode cX0_pieceBlock 9 = .ok (.iload_n 2, 1) := by decide +kernel
theorem dX0_pieceBlock_10 : decode cX0_pieceBlock 10 = .ok (.ifCond .lt 10, 3) := by decide +kernel
theorem dX0_pieceBlock_13 : decode cX0_pieceBlock 13 = .ok (.iload_n 2, 1) := by decide +kernel
theorem dX0_pieceBlock_14 : decode cX0_pieceBlock 14 = .ok (.sipush 1068, 3) := by decide +kernel
theorem dX0_pieceBlock_17 : decode cX0_pieceBlock 17 = .ok (.if_icmp .lt 5, 3) := by decide +kernel
theorem dX0_pieceBlock_20 : decode cX0_pieceBlock 20 = .ok (.iconst 0, 1) := by decide +kernel
theorem dX0_pieceBlock_21 : decode cX0_pieceBlock 21 = .ok (.ireturn, 1) := by decide +kernel
theorem dX0_pieceBlock_22 : decode cX0_pieceBlock 22 = .ok (.iload_n 2, 1) := by decide +kernel
theorem dX0_pieceBlock_23 : decode cX0_pieceBlock 23 = .ok (.bipush 12, 2) := by decide +kernel
theorem dX0_pieceBlock_25 : decode cX0_pieceBlock 25 = .ok (.if_icmp .ge 15, 3) := by decide +kernel
theorem dX0_pieceBlock_28 : decode cX0_pieceBlock 28 = .ok (.aload_n 0, 1) := by decide +kernel
theorem dX0_pieceBlock_29 : decode cX0_pieceBlock 29 = .ok (.getfield 11, 3) := by decide +kernel
theorem dX0_pieceBlock_32 : decode cX0_pieceBlock 32 = .ok (.iload_n 3, 1) := by decide +kernel
theorem dX0_pieceBlock_33 : decode cX0_pieceBlock 33 = .ok (.iconst 4, 1) := by decide +kernel
theorem dX0_pieceBlock_34 : decode cX0_pieceBlock 34 = .ok (.iload_n 2, 1) := by decide +kernel
theorem dX0_pieceBlock_35 : decode cX0_pieceBlock 35 = .ok (.iadd, 1) := by decide +kernel
theorem dX0_pieceBlock_36 : decode cX0_pieceBlock 36 = .ok (.invokevirtual 54, 3) := by decide +kernel
theorem dX0_pieceBlock_39 : decode cX0_pieceBlock 39 = .ok (.ireturn, 1) := by decide +kernel
theorem dX0_pieceBlock_40 : decode cX0_pieceBlock 40 = .ok (.iload_n 2, 1) := by decide +kernel
theorem dX0_pieceBlock_41 : decode cX0_pieceBlock 41 = .ok (.bipush 44, 2) := by decide +kernel
theorem dX0_pieceBlock_43 : decode cX0_pieceBlock 43 = .ok (.if_icmp .ge 25, 3) := by decide +kernel
theorem dX0_pieceBlock_46 : decode cX0_pieceBlock 46 = .ok (.aload_n 0, 1) := by decide +kernel
theorem dX0_pieceBlock_47 : decode cX0_pieceBlock 47 = .ok (.getfield 11, 3) := by decide +kernel
theorem dX0_pieceBlock_50 : decode cX0_pieceBlock 50 = .ok (.aload_n 0, 1) := by decide +kernel
theorem dX0_pieceBlock_51 : decode cX0_pieceBlock 51 = .ok (.getfield 11, 3) := by decide +kernel
theorem dX0_pieceBlock_54 : decode cX0_pieceBlock 54 = .ok (.iload_n 3, 1) := by decide +kernel
theorem dX0_pieceBlock_55 : decode cX0_pieceBlock 55 = .ok (.bipush 16, 2) := by decide +kernel
theorem dX0_pieceBlock_57 : decode cX0_pieceBlock 57 = .ok (.invokevirtual 54, 3) := by decide +kernel
theorem dX0_pieceBlock_60 : decode cX0_pieceBlock 60 = .ok (.iload_n 2, 1) := by decide +kernel
theorem dX0_pieceBlock_61 : decode cX0_pieceBlock 61 = .ok (.bipush 12, 2) := by decide +kernel
theorem dX0_pieceBlock_63 : decode cX0_pieceBlock 63 = .ok (.isub, 1) := by decide +kernel
theorem dX0_pieceBlock_64 : decode cX0_pieceBlock 64 = .ok (.invokevirtual 54, 3) := by decide +kernel
theorem dX0_pieceBlock_67 : decode cX0_pieceBlock 67 = .ok (.ireturn, 1) := by decide +kernel
theorem dX0_pieceBlock_68 : decode cX0_pieceBlock 68 = .ok (.iload_n 2, 1) := by decide +kernel
theorem dX0_pieceBlock_69 : decode cX0_pieceBlock 69 = .ok (.bipush 44, 2) := by decide +kernel
theorem dX0_pieceBlock_71 : decode cX0_pieceBlock 71 = .ok (.isub, 1) := by decide +kernel
theorem dX0_pieceBlock_72 : decode cX0_pieceBlock 72 = .ok (.istore 4, 2) := by decide +kernel
theorem dX0_pieceBlock_74 : decode cX0_pieceBlock 74 = .ok (.aload_n 0, 1) := by decide +kernel
theorem dX0_pieceBlock_75 : decode cX0_pieceBlock 75 = .ok (.getfield 11, 3) := by decide +kernel
theorem dX0_pieceBlock_78 : decode cX0_pieceBlock 78 = .ok (.aload_n 0, 1) := by decide +kernel
theorem dX0_pieceBlock_79 : decode cX0_pieceBlock 79 = .ok (.iload_n 1, 1) := by decide +kernel
theorem dX0_pieceBlock_80 : decode cX0_pieceBlock 80 = .ok (.iload 4, 2) := by decide +kernel
theorem dX0_pieceBlock_82 : decode cX0_pieceBlock 82 = .ok (.bipush 32, 2) := by decide +kernel
theorem dX0_pieceBlock_84 : decode cX0_pieceBlock 84 = .ok (.idiv, 1) := by decide +kernel
theorem dX0_pieceBlock_85 : decode cX0_pieceBlock 85 = .ok (.invokevirtual 57, 3) := by decide +kernel
theorem dX0_pieceBlock_88 : decode cX0_pieceBlock 88 = .ok (.iload 4, 2) := by decide +kernel
theorem dX0_pieceBlock_90 : decode cX0_pieceBlock 90 = .ok (.bipush 32, 2) := by decide +kernel
theorem dX0_pieceBlock_92 : decode cX0_pieceBlock 92 = .ok (.irem, 1) := by decide +kernel
theorem dX0_pieceBlock_93 : decode cX0_pieceBlock 93 = .ok (.invokevirtual 54, 3) := by decide +kernel
theorem dX0_pieceBlock_96 : decode cX0_pieceBlock 96 = .ok (.ireturn, 1) := by decide +kernel
theorem dX0_blocksWanted_0 : decode cX0_blocksWanted 0 = .ok (.aload_n 0, 1) := by decide +kernel
theorem dX0_blocksWanted_1 : decode cX0_blocksWanted 1 = .ok (.getfield 19, 3) := by decide +kernel
theorem dX0_blocksWanted_4 : decode cX0_blocksWanted 4 = .ok (.iload_n 1, 1) := by decide +kernel
theorem dX0_blocksWanted_5 : decode cX0_blocksWanted 5 = .ok (.invokevirtual 36, 3) := by decide +kernel
theorem dX0_blocksWanted_8 : decode cX0_blocksWanted 8 = .ok (.istore 4, 2) := by decide +kernel
theorem dX0_blocksWanted_10 : decode cX0_blocksWanted 10 = .ok (.iload_n 2, 1) := by decide +kernel
theorem dX0_blocksWanted_11 : decode cX0_blocksWanted 11 = .ok (.bipush 64, 2) := by decide +kernel
theorem dX0_blocksWanted_13 : decode cX0_blocksWanted 13 = .ok (.idiv, 1) := by decide +kernel
theorem dX0_blocksWanted_14 : decode cX0_blocksWanted 14 = .ok (.istore 5, 2) := by decide +kernel
theorem dX0_blocksWanted_16 : decode cX0_blocksWanted 16 = .ok (.iload_n 2, 1) := by decide +kernel
theorem dX0_blocksWanted_17 : decode cX0_blocksWanted 17 = .ok (.iload_n 3, 1) := by decide +kernel
theorem dX0_blocksWanted_18 : decode cX0_blocksWanted 18 = .ok (.iadd, 1) := by decide +kernel
theorem dX0_blocksWanted_19 : decode cX0_blocksWanted 19 = .ok (.iconst 1, 1) := by decide +kernel
theorem dX0_blocksWanted_20 : decode cX0_blocksWanted 20 = .ok (.isub, 1) := by decide +kernel
theorem dX0_blocksWanted_21 : decode cX0_blocksWanted 21 = .ok (.bipush 64, 2) := by decide +kernel
theorem dX0_blocksWanted_23 : decode cX0_blocksWanted 23 = .ok (.idiv, 1) := by decide +kernel
theorem dX0_blocksWanted_24 : decode cX0_blocksWanted 24 = .ok (.istore 6, 2) := by decide +kernel
theorem dX0_blocksWanted_26 : decode cX0_blocksWanted 26 = .ok (.iconst 0, 1) := by decide +kernel
theorem dX0_blocksWanted_27 : decode cX0_blocksWanted 27 = .ok (.istore 7, 2) := by decide +kernel
theorem dX0_blocksWanted_29 : decode cX0_blocksWanted 29 = .ok (.iload 5, 2) := by decide +kernel
theorem dX0_blocksWanted_31 : decode cX0_blocksWanted 31 = .ok (.istore 8, 2) := by decide +kernel
theorem dX0_blocksWanted_33 : decode cX0_blocksWanted 33 = .ok (.iload 8, 2) := by decide +kernel
theorem dX0_blocksWanted_35 : decode cX0_blocksWanted 35 = .ok (.iload 6, 2) := by decide +kernel
theorem dX0_blocksWanted_37 : decode cX0_blocksWanted 37 = .ok (.if_icmp .gt 30, 3) := by decide +kernel
theorem dX0_blocksWanted_40 : decode cX0_blocksWanted 40 = .ok (.iload 8, 2) := by decide +kernel
theorem dX0_blocksWanted_42 : decode cX0_blocksWanted 42 = .ok (.sipush 1068, 3) := by decide +kernel
theorem dX0_blocksWanted_45 : decode cX0_blocksWanted 45 = .ok (.if_icmp .ge 22, 3) := by decide +kernel
theorem dX0_blocksWanted_48 : decode cX0_blocksWanted 48 = .ok (.aload_n 0, 1) := by decide +kernel
theorem dX0_blocksWanted_49 : decode cX0_blocksWanted 49 = .ok (.iload_n 1, 1) := by decide +kernel
theorem dX0_blocksWanted_50 : decode cX0_blocksWanted 50 = .ok (.iload 8, 2) := by decide +kernel
theorem dX0_blocksWanted_52 : decode cX0_blocksWanted 52 = .ok (.invokevirtual 48, 3) := by decide +kernel
theorem dX0_blocksWanted_55 : decode cX0_blocksWanted 55 = .ok (.ifCond .ne 6, 3) := by decide +kernel
theorem dX0_blocksWanted_58 : decode cX0_blocksWanted 58 = .ok (.iinc 7 1, 3) := by decide +kernel
theorem dX0_blocksWanted_61 : decode cX0_blocksWanted 61 = .ok (.iinc 8 1, 3) := by decide +kernel
theorem dX0_blocksWanted_64 : decode cX0_blocksWanted 64 = .ok (.goto (-31), 3) := by decide +kernel
theorem dX0_blocksWanted_67 : decode cX0_blocksWanted 67 = .ok (.iload 6, 2) := by decide +kernel
theorem dX0_blocksWanted_69 : decode cX0_blocksWanted 69 = .ok (.bipush 12, 2) := by decide +kernel
theorem dX0_blocksWanted_71 : decode cX0_blocksWanted 71 = .ok (.if_icmp .lt 27, 3) := by decide +kernel
theorem dX0_blocksWanted_74 : decode cX0_blocksWanted 74 = .ok (.iload 5, 2) := by decide +kernel
theorem dX0_blocksWanted_76 : decode cX0_blocksWanted 76 = .ok (.bipush 44, 2) := by decide +kernel
theorem dX0_blocksWanted_78 : decode cX0_blocksWanted 78 = .ok (.if_icmp .ge 20, 3) := by decide +kernel
theorem dX0_blocksWanted_81 : decode cX0_blocksWanted 81 = .ok (.aload_n 0, 1) := by decide +kernel
theorem dX0_blocksWanted_82 : decode cX0_blocksWanted 82 = .ok (.getfield 11, 3) := by decide +kernel
theorem dX0_blocksWanted_85 : decode cX0_blocksWanted 85 = .ok (.iload 4, 2) := by decide +kernel
theorem dX0_blocksWanted_87 : decode cX0_blocksWanted 87 = .ok (.bipush 16, 2) := by decide +kernel
theorem dX0_blocksWanted_89 : decode cX0_blocksWanted 89 = .ok (.invokevirtual 54, 3) := by decide +kernel
theorem dX0_blocksWanted_92 : decode cX0_blocksWanted 92 = .ok (.ifCond .ne 6, 3) := by decide +kernel
theorem dX0_blocksWanted_95 : decode cX0_blocksWanted 95 = .ok (.iinc 7 1, 3) := by decide +kernel
theorem dX0_blocksWanted_98 : decode cX0_blocksWanted 98 = .ok (.iload 6, 2) := by decide +kernel
theorem dX0_blocksWanted_100 : decode cX0_blocksWanted 100 = .ok (.bipush 44, 2) := by decide +kernel
theorem dX0_blocksWanted_102 : decode cX0_blocksWanted 102 = .ok (.if_icmp .lt 20, 3) := by decide +kernel
theorem dX0_blocksWanted_105 : decode cX0_blocksWanted 105 = .ok (.aload_n 0, 1) := by decide +kernel
theorem dX0_blocksWanted_106 : decode cX0_blocksWanted 106 = .ok (.getfield 11, 3) := by decide +kernel
theorem dX0_blocksWanted_109 : decode cX0_blocksWanted 109 = .ok (.iload 4, 2) := by decide +kernel
theorem dX0_blocksWanted_111 : decode cX0_blocksWanted 111 = .ok (.bipush 17, 2) := by decide +kernel
theorem dX0_blocksWanted_113 : decode cX0_blocksWanted 113 = .ok (.invokevirtual 54, 3) := by decide +kernel
theorem dX0_blocksWanted_116 : decode cX0_blocksWanted 116 = .ok (.ifCond .ne 6, 3) := by decide +kernel
theorem dX0_blocksWanted_119 : decode cX0_blocksWanted 119 = .ok (.iinc 7 1, 3) := by decide +kernel
theorem dX0_blocksWanted_122 : decode cX0_blocksWanted 122 = .ok (.iconst 0, 1) := by decide +kernel
theorem dX0_blocksWanted_123 : decode cX0_blocksWanted 123 = .ok (.istore 8, 2) := by decide +kernel
theorem dX0_blocksWanted_125 : decode cX0_blocksWanted 125 = .ok (.iload 8, 2) := by decide +kernel
theorem dX0_blocksWanted_127 : decode cX0_blocksWanted 127 = .ok (.bipush 32, 2) := by decide +kernel
theorem dX0_blocksWanted_129 : decode cX0_blocksWanted 129 = .ok (.if_icmp .ge 49, 3) := by decide +kernel
theorem dX0_blocksWanted_132 : decode cX0_blocksWanted 132 = .ok (.bipush 44, 2) := by decide +kernel
theorem dX0_blocksWanted_134 : decode cX0_blocksWanted 134 = .ok (.bipush 32, 2) := by decide +kernel
theorem dX0_blocksWanted_136 : decode cX0_blocksWanted 136 = .ok (.iload 8, 2) := by decide +kernel
theorem dX0_blocksWanted_138 : decode cX0_blocksWanted 138 = .ok (.imul, 1) := by decide +kernel
theorem dX0_blocksWanted_139 : decode cX0_blocksWanted 139 = .ok (.iadd, 1) := by decide +kernel
theorem dX0_blocksWanted_140 : decode cX0_blocksWanted 140 = .ok (.istore 9, 2) := by decide +kernel
theorem dX0_blocksWanted_142 : decode cX0_blocksWanted 142 = .ok (.iload 6, 2) := by decide +kernel
theorem dX0_blocksWanted_144 : decode cX0_blocksWanted 144 = .ok (.iload 9, 2) := by decide +kernel
theorem dX0_blocksWanted_146 : decode cX0_blocksWanted 146 = .ok (.if_icmp .lt 26, 3) := by decide +kernel
theorem dX0_blocksWanted_149 : decode cX0_blocksWanted 149 = .ok (.iload 5, 2) := by decide +kernel
theorem dX0_blocksWanted_151 : decode cX0_blocksWanted 151 = .ok (.iload 9, 2) := by decide +kernel
theorem dX0_blocksWanted_153 : decode cX0_blocksWanted 153 = .ok (.bipush 32, 2) := by decide +kernel
theorem dX0_blocksWanted_155 : decode cX0_blocksWanted 155 = .ok (.iadd, 1) := by decide +kernel
theorem dX0_blocksWanted_156 : decode cX0_blocksWanted 156 = .ok (.if_icmp .ge 16, 3) := by decide +kernel
theorem dX0_blocksWanted_159 : decode cX0_blocksWanted 159 = .ok (.aload_n 0, 1) := by decide +kernel
theorem dX0_blocksWanted_160 : decode cX0_blocksWanted 160 = .ok (.iload_n 1, 1) := by decide +kernel
theorem dX0_blocksWanted_161 : decode cX0_blocksWanted 161 = .ok (.iload 8, 2) := by decide +kernel
theorem dX0_blocksWanted_163 : decode cX0_blocksWanted 163 = .ok (.invokevirtual 57, 3) := by decide +kernel
theorem dX0_blocksWanted_166 : decode cX0_blocksWanted 166 = .ok (.ifCond .ne 6, 3) := by decide +kernel
theorem dX0_blocksWanted_169 : decode cX0_blocksWanted 169 = .ok (.iinc 7 1, 3) := by decide +kernel
theorem dX0_blocksWanted_172 : decode cX0_blocksWanted 172 = .ok (.iinc 8 1, 3) := by decide +kernel
theorem dX0_blocksWanted_175 : decode cX0_blocksWanted 175 = .ok (.goto (-50), 3) := by decide +kernel
theorem dX0_blocksWanted_178 : decode cX0_blocksWanted 178 = .ok (.iload 7, 2) := by decide +kernel
theorem dX0_blocksWanted_180 : decode cX0_blocksWanted 180 = .ok (.ireturn, 1) := by decide +kernel
theorem dX10_writeTape_0 : decode cX10_writeTape 0 = .ok (.aload_n 0, 1) := by decide +kernel
theorem dX10_writeTape_1 : decode cX10_writeTape 1 = .ok (.getfield 71, 3) := by decide +kernel
theorem dX10_writeTape_4 : decode cX10_writeTape 4 = .ok (.iload_n 1, 1) := by decide +kernel
theorem dX10_writeTape_5 : decode cX10_writeTape 5 = .ok (.invokevirtual 173, 3) := by decide +kernel
theorem dX10_writeTape_8 : decode cX10_writeTape 8 = .ok (.istore_n 3, 1) := by decide +kernel
theorem dX10_writeTape_9 : decode cX10_writeTape 9 = .ok (.iload_n 3, 1) := by decide +kernel
theorem dX10_writeTape_10 : decode cX10_writeTape 10 = .ok (.iconst 1, 1) := by decide +kernel
theorem dX10_writeTape_11 : decode cX10_writeTape 11 = .ok (.if_icmp .eq 11, 3) := by decide +kernel
theorem dX10_writeTape_14 : decode cX10_writeTape 14 = .ok (.iload_n 3, 1) := by decide +kernel
theorem dX10_writeTape_15 : decode cX10_writeTape 15 = .ok (.iconst 3, 1) := by decide +kernel
theorem dX10_writeTape_16 : decode cX10_writeTape 16 = .ok (.if_icmp .eq 6, 3) := by decide +kernel
theorem dX10_writeTape_19 : decode cX10_writeTape 19 = .ok (.bipush (-14), 2) := by decide +kernel
theorem dX10_writeTape_21 : decode cX10_writeTape 21 = .ok (.ireturn, 1) := by decide +kernel
theorem dX10_writeTape_22 : decode cX10_writeTape 22 = .ok (.aload_n 0, 1) := by decide +kernel
theorem dX10_writeTape_23 : decode cX10_writeTape 23 = .ok (.getfield 71, 3) := by decide +kernel
theorem dX10_writeTape_26 : decode cX10_writeTape 26 = .ok (.iload_n 1, 1) := by decide +kernel
theorem dX10_writeTape_27 : decode cX10_writeTape 27 = .ok (.iconst 2, 1) := by decide +kernel
theorem dX10_writeTape_28 : decode cX10_writeTape 28 = .ok (.aload_n 0, 1) := by decide +kernel
theorem dX10_writeTape_29 : decode cX10_writeTape 29 = .ok (.getfield 113, 3) := by decide +kernel
theorem dX10_writeTape_32 : decode cX10_writeTape 32 = .ok (.invokevirtual 176, 3) := by decide +kernel
theorem dX10_writeTape_35 : decode cX10_writeTape 35 = .ok (.ifCond .ne 6, 3) := by decide +kernel
theorem dX10_writeTape_38 : decode cX10_writeTape 38 = .ok (.bipush (-20), 2) := by decide +kernel
theorem dX10_writeTape_40 : decode cX10_writeTape 40 = .ok (.ireturn, 1) := by decide +kernel
theorem dX10_writeTape_41 : decode cX10_writeTape 41 = .ok (.iload_n 3, 1) := by decide +kernel
theorem dX10_writeTape_42 : decode cX10_writeTape 42 = .ok (.iconst 1, 1) := by decide +kernel
theorem dX10_writeTape_43 : decode cX10_writeTape 43 = .ok (.if_icmp .ne 9, 3) := by decide +kernel
theorem dX10_writeTape_46 : decode cX10_writeTape 46 = .ok (.ldc_w 367, 3) := by decide +kernel
theorem dX10_writeTape_49 : decode cX10_writeTape 49 = .ok (.goto 11, 3) := by decide +kernel
theorem dX10_writeTape_52 : decode cX10_writeTape 52 = .ok (.aload_n 0, 1) := by decide +kernel
theorem dX10_writeTape_53 : decode cX10_writeTape 53 = .ok (.getfield 91, 3) := by decide +kernel
theorem dX10_writeTape_56 : decode cX10_writeTape 56 = .ok (.iload_n 1, 1) := by decide +kernel
theorem dX10_writeTape_57 : decode cX10_writeTape 57 = .ok (.invokevirtual 231, 3) := by decide +kernel
theorem dX10_writeTape_60 : decode cX10_writeTape 60 = .ok (.istore 4, 2) := by decide +kernel
theorem dX10_writeTape_62 : decode cX10_writeTape 62 = .ok (.iload_n 2, 1) := by decide +kernel
theorem dX10_writeTape_63 : decode cX10_writeTape 63 = .ok (.ifCond .lt 17, 3) := by decide +kernel
theorem dX10_writeTape_66 : decode cX10_writeTape 66 = .ok (.iload_n 2, 1) := by decide +kernel
theorem dX10_writeTape_67 : decode cX10_writeTape 67 = .ok (.iload 4, 2) := by decide +kernel
theorem dX10_writeTape_69 : decode cX10_writeTape 69 = .ok (.aload_n 0, 1) := by decide +kernel
theorem dX10_writeTape_70 : decode cX10_writeTape 70 = .ok (.getfield 79, 3) := by decide +kernel
theorem dX10_writeTape_73 : decode cX10_writeTape 73 = .ok (.getfield 116, 3) := by decide +kernel
