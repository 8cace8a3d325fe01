theorem dX11_hasRoom_30 : decode cX11_hasRoom 30 = .ok (.goto 4, 3) := by decide +kernel
theorem dX11_hasRoom_33 : decode cX11_hasRoom 33 = .ok (.iconst 0, 1) := by decide +kernel
theorem dX11_hasRoom_34 : decode cX11_hasRoom 34 = .ok (.ireturn, 1) := by decide +kernel
theorem dX11_soilSlot_0 : decode cX11_soilSlot 0 = .ok (.iload_n 1, 1) := by decide +kernel
theorem dX11_soilSlot_1 : decode cX11_soilSlot 1 = .ok (.bipush 48, 2) := by decide +kernel
theorem dX11_soilSlot_3 : decode cX11_soilSlot 3 = .ok (.idiv, 1) := by decide +kernel
theorem dX11_soilSlot_4 : decode cX11_soilSlot 4 = .ok (.istore_n 2, 1) := by decide +kernel
theorem dX11_soilSlot_5 : decode cX11_soilSlot 5 = .ok (.aload_n 0, 1) := by decide +kernel
theorem dX11_soilSlot_6 : decode cX11_soilSlot 6 = .ok (.aload_n 0, 1) := by decide +kernel
theorem dX11_soilSlot_7 : decode cX11_soilSlot 7 = .ok (.getfield 65, 3) := by decide +kernel
theorem dX11_soilSlot_10 : decode cX11_soilSlot 10 = .ok (.bipush 12, 2) := by decide +kernel
theorem dX11_soilSlot_12 : decode cX11_soilSlot 12 = .ok (.iload_n 2, 1) := by decide +kernel
theorem dX11_soilSlot_13 : decode cX11_soilSlot 13 = .ok (.imul, 1) := by decide +kernel
theorem dX11_soilSlot_14 : decode cX11_soilSlot 14 = .ok (.iload_n 1, 1) := by decide +kernel
theorem dX11_soilSlot_15 : decode cX11_soilSlot 15 = .ok (.bipush 48, 2) := by decide +kernel
theorem dX11_soilSlot_17 : decode cX11_soilSlot 17 = .ok (.irem, 1) := by decide +kernel
theorem dX11_soilSlot_18 : decode cX11_soilSlot 18 = .ok (.iconst 4, 1) := by decide +kernel
theorem dX11_soilSlot_19 : decode cX11_soilSlot 19 = .ok (.idiv, 1) := by decide +kernel
theorem dX11_soilSlot_20 : decode cX11_soilSlot 20 = .ok (.iadd, 1) := by decide +kernel
theorem dX11_soilSlot_21 : decode cX11_soilSlot 21 = .ok (.iaload, 1) := by decide +kernel
theorem dX11_soilSlot_22 : decode cX11_soilSlot 22 = .ok (.invokevirtual 294, 3) := by decide +kernel
theorem dX11_soilSlot_25 : decode cX11_soilSlot 25 = .ok (.return_, 1) := by decide +kernel
theorem dX11_soilMap_0 : decode cX11_soilMap 0 = .ok (.aload_n 0, 1) := by decide +kernel
theorem dX11_soilMap_1 : decode cX11_soilMap 1 = .ok (.aload_n 0, 1) := by decide +kernel
theorem dX11_soilMap_2 : decode cX11_soilMap 2 = .ok (.getfield 171, 3) := by decide +kernel
theorem dX11_soilMap_5 : decode cX11_soilMap 5 = .ok (.iload_n 1, 1) := by decide +kernel
theorem dX11_soilMap_6 : decode cX11_soilMap 6 = .ok (.sipush 512, 3) := by decide +kernel
theorem dX11_soilMap_9 : decode cX11_soilMap 9 = .ok (.idiv, 1) := by decide +kernel
theorem dX11_soilMap_10 : decode cX11_soilMap 10 = .ok (.iadd, 1) := by decide +kernel
theorem dX11_soilMap_11 : decode cX11_soilMap 11 = .ok (.invokevirtual 294, 3) := by decide +kernel
theorem dX11_soilMap_14 : decode cX11_soilMap 14 = .ok (.return_, 1) := by decide +kernel
theorem dX11_takeBlock_0 : decode cX11_takeBlock 0 = .ok (.aload_n 0, 1) := by decide +kernel
theorem dX11_takeBlock_1 : decode cX11_takeBlock 1 = .ok (.iload_n 1, 1) := by decide +kernel
theorem dX11_takeBlock_2 : decode cX11_takeBlock 2 = .ok (.invokevirtual 297, 3) := by decide +kernel
theorem dX11_takeBlock_5 : decode cX11_takeBlock 5 = .ok (.istore_n 2, 1) := by decide +kernel
theorem dX11_takeBlock_6 : decode cX11_takeBlock 6 = .ok (.aload_n 0, 1) := by decide +kernel
theorem dX11_takeBlock_7 : decode cX11_takeBlock 7 = .ok (.getfield 82, 3) := by decide +kernel
theorem dX11_takeBlock_10 : decode cX11_takeBlock 10 = .ok (.iload_n 2, 1) := by decide +kernel
theorem dX11_takeBlock_11 : decode cX11_takeBlock 11 = .ok (.iconst 1, 1) := by decide +kernel
theorem dX11_takeBlock_12 : decode cX11_takeBlock 12 = .ok (.bastore, 1) := by decide +kernel
theorem dX11_takeBlock_13 : decode cX11_takeBlock 13 = .ok (.aload_n 0, 1) := by decide +kernel
theorem dX11_takeBlock_14 : decode cX11_takeBlock 14 = .ok (.iload_n 2, 1) := by decide +kernel
theorem dX11_takeBlock_15 : decode cX11_takeBlock 15 = .ok (.invokevirtual 300, 3) := by decide +kernel
theorem dX11_takeBlock_18 : decode cX11_takeBlock 18 = .ok (.aload_n 0, 1) := by decide +kernel
theorem dX11_takeBlock_19 : decode cX11_takeBlock 19 = .ok (.iload_n 2, 1) := by decide +kernel
theorem dX11_takeBlock_20 : decode cX11_takeBlock 20 = .ok (.invokevirtual 294, 3) := by decide +kernel
theorem dX11_takeBlock_23 : decode cX11_takeBlock 23 = .ok (.bipush 64, 2) := by decide +kernel
theorem dX11_takeBlock_25 : decode cX11_takeBlock 25 = .ok (.iload_n 2, 1) := by decide +kernel
theorem dX11_takeBlock_26 : decode cX11_takeBlock 26 = .ok (.imul, 1) := by decide +kernel
theorem dX11_takeBlock_27 : decode cX11_takeBlock 27 = .ok (.istore_n 3, 1) := by decide +kernel
theorem dX11_takeBlock_28 : decode cX11_takeBlock 28 = .ok (.iload_n 3, 1) := by decide +kernel
theorem dX11_takeBlock_29 : decode cX11_takeBlock 29 = .ok (.bipush 64, 2) := by decide +kernel
theorem dX11_takeBlock_31 : decode cX11_takeBlock 31 = .ok (.iload_n 2, 1) := by decide +kernel
theorem dX11_takeBlock_32 : decode cX11_takeBlock 32 = .ok (.imul, 1) := by decide +kernel
theorem dX11_takeBlock_33 : decode cX11_takeBlock 33 = .ok (.bipush 64, 2) := by decide +kernel
theorem dX11_takeBlock_35 : decode cX11_takeBlock 35 = .ok (.iadd, 1) := by decide +kernel
theorem dX11_takeBlock_36 : decode cX11_takeBlock 36 = .ok (.if_icmp .ge 16, 3) := by decide +kernel
theorem dX11_takeBlock_39 : decode cX11_takeBlock 39 = .ok (.aload_n 0, 1) := by decide +kernel
theorem dX11_takeBlock_40 : decode cX11_takeBlock 40 = .ok (.getfield 86, 3) := by decide +kernel
theorem dX11_takeBlock_43 : decode cX11_takeBlock 43 = .ok (.iload_n 3, 1) := by decide +kernel
theorem dX11_takeBlock_44 : decode cX11_takeBlock 44 = .ok (.iconst 0, 1) := by decide +kernel
theorem dX11_takeBlock_45 : decode cX11_takeBlock 45 = .ok (.bastore, 1) := by decide +kernel
theorem dX11_takeBlock_46 : decode cX11_takeBlock 46 = .ok (.iinc 3 1, 3) := by decide +kernel
theorem dX11_takeBlock_49 : decode cX11_takeBlock 49 = .ok (.goto (-21), 3) := by decide +kernel
theorem dX11_takeBlock_52 : decode cX11_takeBlock 52 = .ok (.iload_n 2, 1) := by decide +kernel
theorem dX11_takeBlock_53 : decode cX11_takeBlock 53 = .ok (.ireturn, 1) := by decide +kernel
theorem dX11_enter_0 : decode cX11_enter 0 = .ok (.aload_n 0, 1) := by decide +kernel
theorem dX11_enter_1 : decode cX11_enter 1 = .ok (.iload_n 1, 1) := by decide +kernel
theorem dX11_enter_2 : decode cX11_enter 2 = .ok (.invokevirtual 318, 3) := by decide +kernel
theorem dX11_enter_5 : decode cX11_enter 5 = .ok (.iconst (-1), 1) := by decide +kernel
theorem dX11_enter_6 : decode cX11_enter 6 = .ok (.if_icmp .ne 83, 3) := by decide +kernel
theorem dX11_enter_9 : decode cX11_enter 9 = .ok (.aload_n 0, 1) := by decide +kernel
theorem dX11_enter_10 : decode cX11_enter 10 = .ok (.getfield 65, 3) := by decide +kernel
theorem dX11_enter_13 : decode cX11_enter 13 = .ok (.bipush 12, 2) := by decide +kernel
theorem dX11_enter_15 : decode cX11_enter 15 = .ok (.iload_n 1, 1) := by decide +kernel
theorem dX11_enter_16 : decode cX11_enter 16 = .ok (.imul, 1) := by decide +kernel
theorem dX11_enter_17 : decode cX11_enter 17 = .ok (.aload_n 0, 1) := by decide +kernel
theorem dX11_enter_18 : decode cX11_enter 18 = .ok (.getfield 49, 3) := by decide +kernel
theorem dX11_enter_21 : decode cX11_enter 21 = .ok (.iload_n 1, 1) := by decide +kernel
theorem dX11_enter_22 : decode cX11_enter 22 = .ok (.iaload, 1) := by decide +kernel
theorem dX11_enter_23 : decode cX11_enter 23 = .ok (.iadd, 1) := by decide +kernel
theorem dX11_enter_24 : decode cX11_enter 24 = .ok (.aload_n 0, 1) := by decide +kernel
theorem dX11_enter_25 : decode cX11_enter 25 = .ok (.iload 5, 2) := by decide +kernel
theorem dX11_enter_27 : decode cX11_enter 27 = .ok (.invokevirtual 321, 3) := by decide +kernel
theorem dX11_enter_30 : decode cX11_enter 30 = .ok (.iastore, 1) := by decide +kernel
theorem dX11_enter_31 : decode cX11_enter 31 = .ok (.aload_n 0, 1) := by decide +kernel
theorem dX11_enter_32 : decode cX11_enter 32 = .ok (.getfield 49, 3) := by decide +kernel
theorem dX11_enter_35 : decode cX11_enter 35 = .ok (.iload_n 1, 1) := by decide +kernel
theorem dX11_enter_36 : decode cX11_enter 36 = .ok (.dup2, 1) := by decide +kernel
theorem dX11_enter_37 : decode cX11_enter 37 = .ok (.iaload, 1) := by decide +kernel
theorem dX11_enter_38 : decode cX11_enter 38 = .ok (.iconst 1, 1) := by decide +kernel
theorem dX11_enter_39 : decode cX11_enter 39 = .ok (.iadd, 1) := by decide +kernel
theorem dX11_enter_40 : decode cX11_enter 40 = .ok (.iastore, 1) := by decide +kernel
theorem dX11_enter_41 : decode cX11_enter 41 = .ok (.bipush 48, 2) := by decide +kernel
theorem dX11_enter_43 : decode cX11_enter 43 = .ok (.iload_n 1, 1) := by decide +kernel
theorem dX11_enter_44 : decode cX11_enter 44 = .ok (.imul, 1) := by decide +kernel
theorem dX11_enter_45 : decode cX11_enter 45 = .ok (.aload_n 0, 1) := by decide +kernel
theorem dX11_enter_46 : decode cX11_enter 46 = .ok (.iload_n 1, 1) := by decide +kernel
theorem dX11_enter_47 : decode cX11_enter 47 = .ok (.invokevirtual 315, 3) := by decide +kernel
theorem dX11_enter_50 : decode cX11_enter 50 = .ok (.iadd, 1) := by decide +kernel
theorem dX11_enter_51 : decode cX11_enter 51 = .ok (.iconst 4, 1) := by decide +kernel
theorem dX11_enter_52 : decode cX11_enter 52 = .ok (.isub, 1) := by decide +kernel
theorem dX11_enter_53 : decode cX11_enter 53 = .ok (.istore 6, 2) := by decide +kernel
theorem dX11_enter_55 : decode cX11_enter 55 = .ok (.iload 6, 2) := by decide +kernel
theorem dX11_enter_57 : decode cX11_enter 57 = .ok (.bipush 48, 2) := by decide +kernel
theorem dX11_enter_59 : decode cX11_enter 59 = .ok (.iload_n 1, 1) := by decide +kernel
theorem dX11_enter_60 : decode cX11_enter 60 = .ok (.imul, 1) := by decide +kernel
theorem dX11_enter_61 : decode cX11_enter 61 = .ok (.aload_n 0, 1) := by decide +kernel
theorem dX11_enter_62 : decode cX11_enter 62 = .ok (.iload_n 1, 1) := by decide +kernel
theorem dX11_enter_63 : decode cX11_enter 63 = .ok (.invokevirtual 315, 3) := by decide +kernel
theorem dX11_enter_66 : decode cX11_enter 66 = .ok (.iadd, 1) := by decide +kernel
theorem dX11_enter_67 : decode cX11_enter 67 = .ok (.if_icmp .ge 17, 3) := by decide +kernel
theorem dX11_enter_70 : decode cX11_enter 70 = .ok (.aload_n 0, 1) := by decide +kernel
theorem dX11_enter_71 : decode cX11_enter 71 = .ok (.getfield 68, 3) := by decide +kernel
theorem dX11_enter_74 : decode cX11_enter 74 = .ok (.iload 6, 2) := by decide +kernel
theorem dX11_enter_76 : decode cX11_enter 76 = .ok (.iconst (-1), 1) := by decide +kernel
theorem dX11_enter_77 : decode cX11_enter 77 = .ok (.iastore, 1) := by decide +kernel
theorem dX11_enter_78 : decode cX11_enter 78 = .ok (.iinc 6 1, 3) := by decide +kernel
theorem dX11_enter_81 : decode cX11_enter 81 = .ok (.goto (-26), 3) := by decide +kernel
theorem dX11_enter_84 : decode cX11_enter 84 = .ok (.aload_n 0, 1) := by decide +kernel
theorem dX11_enter_85 : decode cX11_enter 85 = .ok (.iload_n 1, 1) := by decide +kernel
theorem dX11_enter_86 : decode cX11_enter 86 = .ok (.invokevirtual 324, 3) := by decide +kernel
theorem dX11_enter_89 : decode cX11_enter 89 = .ok (.aload_n 0, 1) := by decide +kernel
theorem dX11_enter_90 : decode cX11_enter 90 = .ok (.iload_n 1, 1) := by decide +kernel
theorem dX11_enter_91 : decode cX11_enter 91 = .ok (.invokevirtual 318, 3) := by decide +kernel
theorem dX11_enter_94 : decode cX11_enter 94 = .ok (.istore 6, 2) := by decide +kernel
theorem dX11_enter_96 : decode cX11_enter 96 = .ok (.aload_n 0, 1) := by decide +kernel
theorem dX11_enter_97 : decode cX11_enter 97 = .ok (.getfield 68, 3) := by decide +kernel
theorem dX11_enter_100 : decode cX11_enter 100 = .ok (.iload 6, 2) := by decide +kernel
theorem dX11_enter_102 : decode cX11_enter 102 = .ok (.iload 4, 2) := by decide +kernel
theorem dX11_enter_104 : decode cX11_enter 104 = .ok (.iastore, 1) := by decide +kernel
theorem dX11_enter_105 : decode cX11_enter 105 = .ok (.aload_n 0, 1) := by decide +kernel
theorem dX11_enter_106 : decode cX11_enter 106 = .ok (.getfield 71, 3) := by decide +kernel
theorem dX11_enter_109 : decode cX11_enter 109 = .ok (.iload 6, 2) := by decide +kernel
theorem dX11_enter_111 : decode cX11_enter 111 = .ok (.lload_n 2, 1) := by decide +kernel
theorem dX11_enter_112 : decode cX11_enter 112 = .ok (.lastore, 1) := by decide +kernel
theorem dX11_enter_113 : decode cX11_enter 113 = .ok (.aload_n 0, 1) := by decide +kernel
theorem dX11_enter_114 : decode cX11_enter 114 = .ok (.iload 6, 2) := by decide +kernel
theorem dX11_enter_116 : decode cX11_enter 116 = .ok (.invokevirtual 327, 3) := by decide +kernel
theorem dX11_enter_119 : decode cX11_enter 119 = .ok (.return_, 1) := by decide +kernel
theorem dX11_born_0 : decode cX11_born 0 = .ok (.aload_n 0, 1) := by decide +kernel
theorem dX11_born_1 : decode cX11_born 1 = .ok (.getfield 40, 3) := by decide +kernel
theorem dX11_born_4 : decode cX11_born 4 = .ok (.iload_n 1, 1) := by decide +kernel
theorem dX11_born_5 : decode cX11_born 5 = .ok (.iload_n 2, 1) := by decide +kernel
theorem dX11_born_6 : decode cX11_born 6 = .ok (.iastore, 1) := by decide +kernel
theorem dX11_born_7 : decode cX11_born 7 = .ok (.aload_n 0, 1) := by decide +kernel
theorem dX11_born_8 : decode cX11_born 8 = .ok (.getfield 43, 3) := by decide +kernel
theorem dX11_born_11 : decode cX11_born 11 = .ok (.iload_n 1, 1) := by decide +kernel
theorem dX11_born_12 : decode cX11_born 12 = .ok (.iconst 0, 1) := by decide +kernel
theorem dX11_born_13 : decode cX11_born 13 = .ok (.iastore, 1) := by decide +kernel
theorem dX11_born_14 : decode cX11_born 14 = .ok (.aload_n 0, 1) := by decide +kernel
theorem dX11_born_15 : decode cX11_born 15 = .ok (.getfield 46, 3) := by decide +kernel
theorem dX11_born_18 : decode cX11_born 18 = .ok (.iload_n 1, 1) := by decide +kernel
theorem dX11_born_19 : decode cX11_born 19 = .ok (.iload_n 2, 1) := by decide +kernel
theorem dX11_born_20 : decode cX11_born 20 = .ok (.iconst 2, 1) := by decide +kernel
theorem dX11_born_21 : decode cX11_born 21 = .ok (.if_icmp .ne 7, 3) := by decide +kernel
theorem dX11_born_24 : decode cX11_born 24 = .ok (.iload_n 3, 1) := by decide +kernel
theorem dX11_born_25 : decode cX11_born 25 = .ok (.goto 4, 3) := by decide +kernel
theorem dX11_born_28 : decode cX11_born 28 = .ok (.iconst 0, 1) := by decide +kernel
theorem dX11_born_29 : decode cX11_born 29 = .ok (.iastore, 1) := by decide +kernel
theorem dX11_born_30 : decode cX11_born 30 = .ok (.aload_n 0, 1) := by decide +kernel
theorem dX11_born_31 : decode cX11_born 31 = .ok (.getfield 49, 3) := by decide +kernel
theorem dX11_born_34 : decode cX11_born 34 = .ok (.iload_n 1, 1) := by decide +kernel
theorem dX11_born_35 : decode cX11_born 35 = .ok (.iconst 0, 1) := by decide +kernel
theorem dX11_born_36 : decode cX11_born 36 = .ok (.iastore, 1) := by decide +kernel
theorem dX11_born_37 : decode cX11_born 37 = .ok (.aload_n 0, 1) := by decide +kernel
theorem dX11_born_38 : decode cX11_born 38 = .ok (.getfield 75, 3) := by decide +kernel
theorem dX11_born_41 : decode cX11_born 41 = .ok (.iload_n 1, 1) := by decide +kernel
theorem dX11_born_42 : decode cX11_born 42 = .ok (.iconst 1, 1) := by decide +kernel
theorem dX11_born_43 : decode cX11_born 43 = .ok (.iastore, 1) := by decide +kernel
theorem dX11_born_44 : decode cX11_born 44 = .ok (.aload_n 0, 1) := by decide +kernel
theorem dX11_born_45 : decode cX11_born 45 = .ok (.getfield 59, 3) := by decide +kernel
theorem dX11_born_48 : decode cX11_born 48 = .ok (.iload_n 1, 1) := by decide +kernel
theorem dX11_born_49 : decode cX11_born 49 = .ok (.aload_n 0, 1) := by decide +kernel
theorem dX11_born_50 : decode cX11_born 50 = .ok (.getfield 330, 3) := by decide +kernel
theorem dX11_born_53 : decode cX11_born 53 = .ok (.iastore, 1) := by decide +kernel
theorem dX11_born_54 : decode cX11_born 54 = .ok (.aload_n 0, 1) := by decide +kernel
theorem dX11_born_55 : decode cX11_born 55 = .ok (.getfield 62, 3) := by decide +kernel
theorem dX11_born_58 : decode cX11_born 58 = .ok (.iload_n 1, 1) := by decide +kernel
theorem dX11_born_59 : decode cX11_born 59 = .ok (.iload_n 2, 1) := by decide +kernel
theorem dX11_born_60 : decode cX11_born 60 = .ok (.iconst 2, 1) := by decide +kernel
theorem dX11_born_61 : decode cX11_born 61 = .ok (.if_icmp .ne 8, 3) := by decide +kernel
theorem dX11_born_64 : decode cX11_born 64 = .ok (.bipush 61, 2) := by decide +kernel
theorem dX11_born_66 : decode cX11_born 66 = .ok (.goto 5, 3) := by decide +kernel
theorem dX11_born_69 : decode cX11_born 69 = .ok (.bipush 52, 2) := by decide +kernel
theorem dX11_born_71 : decode cX11_born 71 = .ok (.iastore, 1) := by decide +kernel
theorem dX11_born_72 : decode cX11_born 72 = .ok (.aload_n 0, 1) := by decide +kernel
theorem dX11_born_73 : decode cX11_born 73 = .ok (.iload_n 1, 1) := by decide +kernel
theorem dX11_born_74 : decode cX11_born 74 = .ok (.invokevirtual 324, 3) := by decide +kernel
theorem dX11_born_77 : decode cX11_born 77 = .ok (.iload_n 1, 1) := by decide +kernel
theorem dX11_born_78 : decode cX11_born 78 = .ok (.ireturn, 1) := by decide +kernel
theorem dX11_create_0 : decode cX11_create 0 = .ok (.aload_n 0, 1) := by decide +kernel
theorem dX11_create_1 : decode cX11_create 1 = .ok (.invokevirtual 333, 3) := by decide +kernel
theorem dX11_create_4 : decode cX11_create 4 = .ok (.ifCond .ne 6, 3) := by decide +kernel
theorem dX11_create_7 : decode cX11_create 7 = .ok (.bipush (-99), 2) := by decide +kernel
theorem dX11_create_9 : decode cX11_create 9 = .ok (.ireturn, 1) := by decide +kernel
theorem dX11_create_10 : decode cX11_create 10 = .ok (.aload_n 0, 1) := by decide +kernel
theorem dX11_create_11 : decode cX11_create 11 = .ok (.iload_n 1, 1) := by decide +kernel
theorem dX11_create_12 : decode cX11_create 12 = .ok (.lload_n 2, 1) := by decide +kernel
theorem dX11_create_13 : decode cX11_create 13 = .ok (.invokevirtual 353, 3) := by decide +kernel
theorem dX11_create_16 : decode cX11_create 16 = .ok (.istore 5, 2) := by decide +kernel
theorem dX11_create_18 : decode cX11_create 18 = .ok (.iload 5, 2) := by decide +kernel
theorem dX11_create_20 : decode cX11_create 20 = .ok (.ifCond .eq 6, 3) := by decide +kernel
theorem dX11_create_23 : decode cX11_create 23 = .ok (.iload 5, 2) := by decide +kernel
theorem dX11_create_25 : decode cX11_create 25 = .ok (.ireturn, 1) := by decide +kernel
theorem dX11_create_26 : decode cX11_create 26 = .ok (.aload_n 0, 1) := by decide +kernel
theorem dX11_create_27 : decode cX11_create 27 = .ok (.invokevirtual 356, 3) := by decide +kernel
theorem dX11_create_30 : decode cX11_create 30 = .ok (.istore 6, 2) := by decide +kernel
theorem dX11_create_32 : decode cX11_create 32 = .ok (.iload 6, 2) := by decide +kernel
theorem dX11_create_34 : decode cX11_create 34 = .ok (.iconst (-1), 1) := by decide +kernel
theorem dX11_create_35 : decode cX11_create 35 = .ok (.if_icmp .eq 12, 3) := by decide +kernel
theorem dX11_create_38 : decode cX11_create 38 = .ok (.aload_n 0, 1) := by decide +kernel
theorem dX11_create_39 : decode cX11_create 39 = .ok (.iload_n 1, 1) := by decide +kernel
theorem dX11_create_40 : decode cX11_create 40 = .ok (.iconst (-1), 1) := by decide +kernel
theorem dX11_create_41 : decode cX11_create 41 = .ok (.invokevirtual 359, 3) := by decide +kernel
theorem dX11_create_44 : decode cX11_create 44 = .ok (.ifCond .ne 6, 3) := by decide +kernel
theorem dX11_create_47 : decode cX11_create 47 = .ok (.bipush (-16), 2) := by decide +kernel
theorem dX11_create_49 : decode cX11_create 49 = .ok (.ireturn, 1) := by decide +kernel
theorem dX11_create_50 : decode cX11_create 50 = .ok (.aload_n 0, 1) := by decide +kernel
theorem dX11_create_51 : decode cX11_create 51 = .ok (.iload_n 1, 1) := by decide +kernel
theorem dX11_create_52 : decode cX11_create 52 = .ok (.lload_n 2, 1) := by decide +kernel
theorem dX11_create_53 : decode cX11_create 53 = .ok (.iload 6, 2) := by decide +kernel
theorem dX11_create_55 : decode cX11_create 55 = .ok (.iconst (-1), 1) := by decide +kernel
theorem dX11_create_56 : decode cX11_create 56 = .ok (.invokevirtual 362, 3) := by decide +kernel
theorem dX11_create_59 : decode cX11_create 59 = .ok (.aload_n 0, 1) := by decide +kernel
theorem dX11_create_60 : decode cX11_create 60 = .ok (.iload 6, 2) := by decide +kernel
theorem dX11_create_62 : decode cX11_create 62 = .ok (.iload 4, 2) := by decide +kernel
theorem dX11_create_64 : decode cX11_create 64 = .ok (.iload_n 1, 1) := by decide +kernel
theorem dX11_create_65 : decode cX11_create 65 = .ok (.invokevirtual 366, 3) := by decide +kernel
theorem dX11_create_68 : decode cX11_create 68 = .ok (.ireturn, 1) := by decide +kernel
theorem dX11_make_0 : decode cX11_make 0 = .ok (.aload_n 0, 1) := by decide +kernel
theorem dX11_make_1 : decode cX11_make 1 = .ok (.iload_n 1, 1) := by decide +kernel
theorem dX11_make_2 : decode cX11_make 2 = .ok (.lload_n 2, 1) := by decide +kernel
theorem dX11_make_3 : decode cX11_make 3 = .ok (.iconst 1, 1) := by decide +kernel
theorem dX11_make_4 : decode cX11_make 4 = .ok (.invokevirtual 369, 3) := by decide +kernel
theorem dX11_make_7 : decode cX11_make 7 = .ok (.ireturn, 1) := by decide +kernel
theorem dX11_dir_0 : decode cX11_dir 0 = .ok (.aload_n 0, 1) := by decide +kernel
theorem dX11_dir_1 : decode cX11_dir 1 = .ok (.iload_n 1, 1) := by decide +kernel
theorem dX11_dir_2 : decode cX11_dir 2 = .ok (.lload_n 2, 1) := by decide +kernel
theorem dX11_dir_3 : decode cX11_dir 3 = .ok (.iconst 2, 1) := by decide +kernel
theorem dX11_dir_4 : decode cX11_dir 4 = .ok (.invokevirtual 369, 3) := by decide +kernel
theorem dX11_dir_7 : decode cX11_dir 7 = .ok (.ireturn, 1) := by decide +kernel
theorem dX11_point_0 : decode cX11_point 0 = .ok (.aload_n 0, 1) := by decide +kernel
theorem dX11_point_1 : decode cX11_point 1 = .ok (.getfield 180, 3) := by decide +kernel
theorem dX11_point_4 : decode cX11_point 4 = .ok (.istore 4, 2) := by decide +kernel
theorem dX11_point_6 : decode cX11_point 6 = .ok (.aload_n 0, 1) := by decide +kernel
theorem dX11_point_7 : decode cX11_point 7 = .ok (.iconst 0, 1) := by decide +kernel
theorem dX11_point_8 : decode cX11_point 8 = .ok (.putfield 180, 3) := by decide +kernel
theorem dX11_point_11 : decode cX11_point 11 = .ok (.aload_n 0, 1) := by decide +kernel
theorem dX11_point_12 : decode cX11_point 12 = .ok (.invokevirtual 333, 3) := by decide +kernel
theorem dX11_point_15 : decode cX11_point 15 = .ok (.ifCond .ne 6, 3) := by decide +kernel
theorem dX11_point_18 : decode cX11_point 18 = .ok (.bipush (-99), 2) := by decide +kernel
theorem dX11_point_20 : decode cX11_point 20 = .ok (.ireturn, 1) := by decide +kernel
theorem dX11_point_21 : decode cX11_point 21 = .ok (.aload_n 0, 1) := by decide +kernel
theorem dX11_point_22 : decode cX11_point 22 = .ok (.iload_n 1, 1) := by decide +kernel
theorem dX11_point_23 : decode cX11_point 23 = .ok (.lload_n 2, 1) := by decide +kernel
theorem dX11_point_24 : decode cX11_point 24 = .ok (.invokevirtual 353, 3) := by decide +kernel
theorem dX11_point_27 : decode cX11_point 27 = .ok (.istore 5, 2) := by decide +kernel
theorem dX11_point_29 : decode cX11_point 29 = .ok (.iload 5, 2) := by decide +kernel
theorem dX11_point_31 : decode cX11_point 31 = .ok (.ifCond .eq 6, 3) := by decide +kernel
theorem dX11_point_34 : decode cX11_point 34 = .ok (.iload 5, 2) := by decide +kernel
theorem dX11_point_36 : decode cX11_point 36 = .ok (.ireturn, 1) := by decide +kernel
theorem dX11_point_37 : decode cX11_point 37 = .ok (.iload 4, 2) := by decide +kernel
theorem dX11_point_39 : decode cX11_point 39 = .ok (.ifCond .eq 10, 3) := by decide +kernel
theorem dX11_point_42 : decode cX11_point 42 = .ok (.iload 4, 2) := by decide +kernel
theorem dX11_point_44 : decode cX11_point 44 = .ok (.bipush 40, 2) := by decide +kernel
theorem dX11_point_46 : decode cX11_point 46 = .ok (.if_icmp .le 6, 3) := by decide +kernel
theorem dX11_point_49 : decode cX11_point 49 = .ok (.bipush (-15), 2) := by decide +kernel
theorem dX11_point_51 : decode cX11_point 51 = .ok (.ireturn, 1) := by decide +kernel
theorem dX11_point_52 : decode cX11_point 52 = .ok (.aload_n 0, 1) := by decide +kernel
theorem dX11_point_53 : decode cX11_point 53 = .ok (.invokevirtual 356, 3) := by decide +kernel
theorem dX11_point_56 : decode cX11_point 56 = .ok (.istore 6, 2) := by decide +kernel
theorem dX11_point_58 : decode cX11_point 58 = .ok (.iload 6, 2) := by decide +kernel
theorem dX11_point_60 : decode cX11_point 60 = .ok (.iconst (-1), 1) := by decide +kernel
theorem dX11_point_61 : decode cX11_point 61 = .ok (.if_icmp .eq 12, 3) := by decide +kernel
theorem dX11_point_64 : decode cX11_point 64 = .ok (.aload_n 0, 1) := by decide +kernel
theorem dX11_point_65 : decode cX11_point 65 = .ok (.iload_n 1, 1) := by decide +kernel
theorem dX11_point_66 : decode cX11_point 66 = .ok (.iconst (-1), 1) := by decide +kernel
theorem dX11_point_67 : decode cX11_point 67 = .ok (.invokevirtual 359, 3) := by decide +kernel
theorem dX11_point_70 : decode cX11_point 70 = .ok (.ifCond .ne 6, 3) := by decide +kernel
theorem dX11_point_73 : decode cX11_point 73 = .ok (.bipush (-16), 2) := by decide +kernel
theorem dX11_point_75 : decode cX11_point 75 = .ok (.ireturn, 1) := by decide +kernel
theorem dX11_point_76 : decode cX11_point 76 = .ok (.aload_n 0, 1) := by decide +kernel
theorem dX11_point_77 : decode cX11_point 77 = .ok (.iload_n 1, 1) := by decide +kernel
theorem dX11_point_78 : decode cX11_point 78 = .ok (.lload_n 2, 1) := by decide +kernel
theorem dX11_point_79 : decode cX11_point 79 = .ok (.iload 6, 2) := by decide +kernel
theorem dX11_point_81 : decode cX11_point 81 = .ok (.iconst (-1), 1) := by decide +kernel
theorem dX11_point_82 : decode cX11_point 82 = .ok (.invokevirtual 362, 3) := by decide +kernel
theorem dX11_point_85 : decode cX11_point 85 = .ok (.aload_n 0, 1) := by decide +kernel
theorem dX11_point_86 : decode cX11_point 86 = .ok (.iload 6, 2) := by decide +kernel
theorem dX11_point_88 : decode cX11_point 88 = .ok (.iconst 4, 1) := by decide +kernel
theorem dX11_point_89 : decode cX11_point 89 = .ok (.iload_n 1, 1) := by decide +kernel
theorem dX11_point_90 : decode cX11_point 90 = .ok (.invokevirtual 366, 3) := by decide +kernel
theorem dX11_point_93 : decode cX11_point 93 = .ok (.pop, 1) := by decide +kernel
theorem dX11_point_94 : decode cX11_point 94 = .ok (.aload_n 0, 1) := by decide +kernel
theorem dX11_point_95 : decode cX11_point 95 = .ok (.getfield 43, 3) := by decide +kernel
theorem dX11_point_98 : decode cX11_point 98 = .ok (.iload 6, 2) := by decide +kernel
theorem dX11_point_100 : decode cX11_point 100 = .ok (.iload 4, 2) := by decide +kernel
theorem dX11_point_102 : decode cX11_point 102 = .ok (.iastore, 1) := by decide +kernel
theorem dX11_point_103 : decode cX11_point 103 = .ok (.iconst 0, 1) := by decide +kernel
theorem dX11_point_104 : decode cX11_point 104 = .ok (.istore 7, 2) := by decide +kernel
theorem dX11_point_106 : decode cX11_point 106 = .ok (.iload 7, 2) := by decide +kernel
theorem dX11_point_108 : decode cX11_point 108 = .ok (.iload 4, 2) := by decide +kernel
theorem dX11_point_110 : decode cX11_point 110 = .ok (.if_icmp .ge 29, 3) := by decide +kernel
theorem dX11_point_113 : decode cX11_point 113 = .ok (.aload_n 0, 1) := by decide +kernel
theorem dX11_point_114 : decode cX11_point 114 = .ok (.getfield 78, 3) := by decide +kernel
theorem dX11_point_117 : decode cX11_point 117 = .ok (.bipush 40, 2) := by decide +kernel
theorem dX11_point_119 : decode cX11_point 119 = .ok (.iload 6, 2) := by decide +kernel
theorem dX11_point_121 : decode cX11_point 121 = .ok (.imul, 1) := by decide +kernel
theorem dX11_point_122 : decode cX11_point 122 = .ok (.iload 7, 2) := by decide +kernel
theorem dX11_point_124 : decode cX11_point 124 = .ok (.iadd, 1) := by decide +kernel
theorem dX11_point_125 : decode cX11_point 125 = .ok (.aload_n 0, 1) := by decide +kernel
theorem dX11_point_126 : decode cX11_point 126 = .ok (.getfield 140, 3) := by decide +kernel
theorem dX11_point_129 : decode cX11_point 129 = .ok (.iload 7, 2) := by decide +kernel
theorem dX11_point_131 : decode cX11_point 131 = .ok (.baload, 1) := by decide +kernel
theorem dX11_point_132 : decode cX11_point 132 = .ok (.bastore, 1) := by decide +kernel
theorem dX11_point_133 : decode cX11_point 133 = .ok (.iinc 7 1, 3) := by decide +kernel
theorem dX11_point_136 : decode cX11_point 136 = .ok (.goto (-30), 3) := by decide +kernel
theorem dX11_point_139 : decode cX11_point 139 = .ok (.iload 6, 2) := by decide +kernel
theorem dX11_point_141 : decode cX11_point 141 = .ok (.ireturn, 1) := by decide +kernel
theorem dX11_isFile_0 : decode cX11_isFile 0 = .ok (.iload_n 1, 1) := by decide +kernel
theorem dX11_isFile_1 : decode cX11_isFile 1 = .ok (.ifCond .lt 37, 3) := by decide +kernel
theorem dX11_isFile_4 : decode cX11_isFile 4 = .ok (.iload_n 1, 1) := by decide +kernel
theorem dX11_isFile_5 : decode cX11_isFile 5 = .ok (.bipush 64, 2) := by decide +kernel
theorem dX11_isFile_7 : decode cX11_isFile 7 = .ok (.if_icmp .ge 31, 3) := by decide +kernel
theorem dX11_isFile_10 : decode cX11_isFile 10 = .ok (.aload_n 0, 1) := by decide +kernel
theorem dX11_isFile_11 : decode cX11_isFile 11 = .ok (.getfield 40, 3) := by decide +kernel
theorem dX11_isFile_14 : decode cX11_isFile 14 = .ok (.iload_n 1, 1) := by decide +kernel
theorem dX11_isFile_15 : decode cX11_isFile 15 = .ok (.iaload, 1) := by decide +kernel
theorem dX11_isFile_16 : decode cX11_isFile 16 = .ok (.iconst 1, 1) := by decide +kernel
theorem dX11_isFile_17 : decode cX11_isFile 17 = .ok (.if_icmp .eq 17, 3) := by decide +kernel
theorem dX11_isFile_20 : decode cX11_isFile 20 = .ok (.iload_n 2, 1) := by decide +kernel
theorem dX11_isFile_21 : decode cX11_isFile 21 = .ok (.ifCond .eq 17, 3) := by decide +kernel
theorem dX11_isFile_24 : decode cX11_isFile 24 = .ok (.aload_n 0, 1) := by decide +kernel
theorem dX11_isFile_25 : decode cX11_isFile 25 = .ok (.getfield 40, 3) := by decide +kernel
theorem dX11_isFile_28 : decode cX11_isFile 28 = .ok (.iload_n 1, 1) := by decide +kernel
theorem dX11_isFile_29 : decode cX11_isFile 29 = .ok (.iaload, 1) := by decide +kernel
theorem dX11_isFile_30 : decode cX11_isFile 30 = .ok (.iconst 3, 1) := by decide +kernel
theorem dX11_isFile_31 : decode cX11_isFile 31 = .ok (.if_icmp .ne 7, 3) := by decide +kernel
theorem dX11_isFile_34 : decode cX11_isFile 34 = .ok (.iconst 1, 1) := by decide +kernel
theorem dX11_isFile_35 : decode cX11_isFile 35 = .ok (.goto 4, 3) := by decide +kernel
theorem dX11_isFile_38 : decode cX11_isFile 38 = .ok (.iconst 0, 1) := by decide +kernel
theorem dX11_isFile_39 : decode cX11_isFile 39 = .ok (.ireturn, 1) := by decide +kernel
theorem dX11_link_0 : decode cX11_link 0 = .ok (.aload_n 0, 1) := by decide +kernel
theorem dX11_link_1 : decode cX11_link 1 = .ok (.invokevirtual 333, 3) := by decide +kernel
theorem dX11_link_4 : decode cX11_link 4 = .ok (.ifCond .ne 6, 3) := by decide +kernel
theorem dX11_link_7 : decode cX11_link 7 = .ok (.bipush (-99), 2) := by decide +kernel
theorem dX11_link_9 : decode cX11_link 9 = .ok (.ireturn, 1) := by decide +kernel
theorem dX11_link_10 : decode cX11_link 10 = .ok (.aload_n 0, 1) := by decide +kernel
theorem dX11_link_11 : decode cX11_link 11 = .ok (.iload_n 1, 1) := by decide +kernel
theorem dX11_link_12 : decode cX11_link 12 = .ok (.invokevirtual 339, 3) := by decide +kernel
theorem dX11_link_15 : decode cX11_link 15 = .ok (.ifCond .ne 6, 3) := by decide +kernel
theorem dX11_link_18 : decode cX11_link 18 = .ok (.bipush (-10), 2) := by decide +kernel
theorem dX11_link_20 : decode cX11_link 20 = .ok (.ireturn, 1) := by decide +kernel
theorem dX11_link_21 : decode cX11_link 21 = .ok (.lload_n 2, 1) := by decide +kernel
theorem dX11_link_22 : decode cX11_link 22 = .ok (.invokestatic 342, 3) := by decide +kernel
theorem dX11_link_25 : decode cX11_link 25 = .ok (.ifCond .ne 6, 3) := by decide +kernel
theorem dX11_link_28 : decode cX11_link 28 = .ok (.bipush (-11), 2) := by decide +kernel
theorem dX11_link_30 : decode cX11_link 30 = .ok (.ireturn, 1) := by decide +kernel
theorem dX11_link_31 : decode cX11_link 31 = .ok (.aload_n 0, 1) := by decide +kernel
theorem dX11_link_32 : decode cX11_link 32 = .ok (.iload_n 1, 1) := by decide +kernel
theorem dX11_link_33 : decode cX11_link 33 = .ok (.iconst 3, 1) := by decide +kernel
theorem dX11_link_34 : decode cX11_link 34 = .ok (.invokevirtual 346, 3) := by decide +kernel
theorem dX11_link_37 : decode cX11_link 37 = .ok (.ifCond .ne 6, 3) := by decide +kernel
theorem dX11_link_40 : decode cX11_link 40 = .ok (.bipush (-20), 2) := by decide +kernel
theorem dX11_link_42 : decode cX11_link 42 = .ok (.ireturn, 1) := by decide +kernel
theorem dX11_link_43 : decode cX11_link 43 = .ok (.aload_n 0, 1) := by decide +kernel
theorem dX11_link_44 : decode cX11_link 44 = .ok (.iload 4, 2) := by decide +kernel
theorem dX11_link_46 : decode cX11_link 46 = .ok (.iconst 1, 1) := by decide +kernel
theorem dX11_link_47 : decode cX11_link 47 = .ok (.invokevirtual 373, 3) := by decide +kernel
theorem dX11_link_50 : decode cX11_link 50 = .ok (.ifCond .ne 6, 3) := by decide +kernel
theorem dX11_link_53 : decode cX11_link 53 = .ok (.bipush (-14), 2) := by decide +kernel
theorem dX11_link_55 : decode cX11_link 55 = .ok (.ireturn, 1) := by decide +kernel
theorem dX11_link_56 : decode cX11_link 56 = .ok (.aload_n 0, 1) := by decide +kernel
theorem dX11_link_57 : decode cX11_link 57 = .ok (.iload_n 1, 1) := by decide +kernel
theorem dX11_link_58 : decode cX11_link 58 = .ok (.lload_n 2, 1) := by decide +kernel
theorem dX11_link_59 : decode cX11_link 59 = .ok (.invokevirtual 349, 3) := by decide +kernel
theorem dX11_link_62 : decode cX11_link 62 = .ok (.iconst (-1), 1) := by decide +kernel
theorem dX11_link_63 : decode cX11_link 63 = .ok (.if_icmp .eq 6, 3) := by decide +kernel
theorem dX11_link_66 : decode cX11_link 66 = .ok (.bipush (-13), 2) := by decide +kernel
theorem dX11_link_68 : decode cX11_link 68 = .ok (.ireturn, 1) := by decide +kernel
theorem dX11_link_69 : decode cX11_link 69 = .ok (.aload_n 0, 1) := by decide +kernel
theorem dX11_link_70 : decode cX11_link 70 = .ok (.getfield 75, 3) := by decide +kernel
theorem dX11_link_73 : decode cX11_link 73 = .ok (.iload 4, 2) := by decide +kernel
theorem dX11_link_75 : decode cX11_link 75 = .ok (.iaload, 1) := by decide +kernel
theorem dX11_link_76 : decode cX11_link 76 = .ok (.sipush 255, 3) := by decide +kernel
theorem dX11_link_79 : decode cX11_link 79 = .ok (.if_icmp .ne 6, 3) := by decide +kernel
theorem dX11_link_82 : decode cX11_link 82 = .ok (.bipush (-15), 2) := by decide +kernel
theorem dX11_link_84 : decode cX11_link 84 = .ok (.ireturn, 1) := by decide +kernel
theorem dX11_link_85 : decode cX11_link 85 = .ok (.aload_n 0, 1) := by decide +kernel
theorem dX11_link_86 : decode cX11_link 86 = .ok (.iload_n 1, 1) := by decide +kernel
theorem dX11_link_87 : decode cX11_link 87 = .ok (.iconst (-1), 1) := by decide +kernel
theorem dX11_link_88 : decode cX11_link 88 = .ok (.invokevirtual 359, 3) := by decide +kernel
theorem dX11_link_91 : decode cX11_link 91 = .ok (.ifCond .ne 6, 3) := by decide +kernel
theorem dX11_link_94 : decode cX11_link 94 = .ok (.bipush (-16), 2) := by decide +kernel
theorem dX11_link_96 : decode cX11_link 96 = .ok (.ireturn, 1) := by decide +kernel
theorem dX11_link_97 : decode cX11_link 97 = .ok (.aload_n 0, 1) := by decide +kernel
theorem dX11_link_98 : decode cX11_link 98 = .ok (.iload_n 1, 1) := by decide +kernel
theorem dX11_link_99 : decode cX11_link 99 = .ok (.lload_n 2, 1) := by decide +kernel
theorem dX11_link_100 : decode cX11_link 100 = .ok (.iload 4, 2) := by decide +kernel
theorem dX11_link_102 : decode cX11_link 102 = .ok (.iconst (-1), 1) := by decide +kernel
theorem dX11_link_103 : decode cX11_link 103 = .ok (.invokevirtual 362, 3) := by decide +kernel
theorem dX11_link_106 : decode cX11_link 106 = .ok (.aload_n 0, 1) := by decide +kernel
theorem dX11_link_107 : decode cX11_link 107 = .ok (.getfield 75, 3) := by decide +kernel
theorem dX11_link_110 : decode cX11_link 110 = .ok (.iload 4, 2) := by decide +kernel
theorem dX11_link_112 : decode cX11_link 112 = .ok (.dup2, 1) := by decide +kernel
theorem dX11_link_113 : decode cX11_link 113 = .ok (.iaload, 1) := by decide +kernel
theorem dX11_link_114 : decode cX11_link 114 = .ok (.iconst 1, 1) := by decide +kernel
theorem dX11_link_115 : decode cX11_link 115 = .ok (.iadd, 1) := by decide +kernel
theorem dX11_link_116 : decode cX11_link 116 = .ok (.iastore, 1) := by decide +kernel
theorem dX11_link_117 : decode cX11_link 117 = .ok (.aload_n 0, 1) := by decide +kernel
theorem dX11_link_118 : decode cX11_link 118 = .ok (.iload 4, 2) := by decide +kernel
theorem dX11_link_120 : decode cX11_link 120 = .ok (.invokevirtual 324, 3) := by decide +kernel
theorem dX11_link_123 : decode cX11_link 123 = .ok (.aload_n 0, 1) := by decide +kernel
theorem dX11_link_124 : decode cX11_link 124 = .ok (.getfield 75, 3) := by decide +kernel
theorem dX11_link_127 : decode cX11_link 127 = .ok (.iload 4, 2) := by decide +kernel
theorem dX11_link_129 : decode cX11_link 129 = .ok (.iaload, 1) := by decide +kernel
theorem dX11_link_130 : decode cX11_link 130 = .ok (.ireturn, 1) := by decide +kernel
theorem dX11_links_0 : decode cX11_links 0 = .ok (.aload_n 0, 1) := by decide +kernel
theorem dX11_links_1 : decode cX11_links 1 = .ok (.getfield 7, 3) := by decide +kernel
theorem dX11_links_4 : decode cX11_links 4 = .ok (.ifCond .ne 6, 3) := by decide +kernel
theorem dX11_links_7 : decode cX11_links 7 = .ok (.bipush (-99), 2) := by decide +kernel
theorem dX11_links_9 : decode cX11_links 9 = .ok (.ireturn, 1) := by decide +kernel
theorem dX11_links_10 : decode cX11_links 10 = .ok (.aload_n 0, 1) := by decide +kernel
theorem dX11_links_11 : decode cX11_links 11 = .ok (.iload_n 1, 1) := by decide +kernel
theorem dX11_links_12 : decode cX11_links 12 = .ok (.iconst 1, 1) := by decide +kernel
theorem dX11_links_13 : decode cX11_links 13 = .ok (.invokevirtual 373, 3) := by decide +kernel
theorem dX11_links_16 : decode cX11_links 16 = .ok (.ifCond .eq 12, 3) := by decide +kernel
theorem dX11_links_19 : decode cX11_links 19 = .ok (.aload_n 0, 1) := by decide +kernel
theorem dX11_links_20 : decode cX11_links 20 = .ok (.getfield 75, 3) := by decide +kernel
theorem dX11_links_23 : decode cX11_links 23 = .ok (.iload_n 1, 1) := by decide +kernel
theorem dX11_links_24 : decode cX11_links 24 = .ok (.iaload, 1) := by decide +kernel
theorem dX11_links_25 : decode cX11_links 25 = .ok (.goto 5, 3) := by decide +kernel
theorem dX11_links_28 : decode cX11_links 28 = .ok (.bipush (-14), 2) := by decide +kernel
theorem dX11_links_30 : decode cX11_links 30 = .ok (.ireturn, 1) := by decide +kernel
theorem dX11_sizeOf_0 : decode cX11_sizeOf 0 = .ok (.iload_n 1, 1) := by decide +kernel
theorem dX11_sizeOf_1 : decode cX11_sizeOf 1 = .ok (.iconst (-1), 1) := by decide +kernel
theorem dX11_sizeOf_2 : decode cX11_sizeOf 2 = .ok (.if_icmp .ne 10, 3) := by decide +kernel
theorem dX11_sizeOf_5 : decode cX11_sizeOf 5 = .ok (.aload_n 0, 1) := by decide +kernel
theorem dX11_sizeOf_6 : decode cX11_sizeOf 6 = .ok (.getfield 377, 3) := by decide +kernel
theorem dX11_sizeOf_9 : decode cX11_sizeOf 9 = .ok (.goto 9, 3) := by decide +kernel
theorem dX11_sizeOf_12 : decode cX11_sizeOf 12 = .ok (.aload_n 0, 1) := by decide +kernel
theorem dX11_sizeOf_13 : decode cX11_sizeOf 13 = .ok (.getfield 43, 3) := by decide +kernel
theorem dX11_sizeOf_16 : decode cX11_sizeOf 16 = .ok (.iload_n 1, 1) := by decide +kernel
theorem dX11_sizeOf_17 : decode cX11_sizeOf 17 = .ok (.iaload, 1) := by decide +kernel
theorem dX11_sizeOf_18 : decode cX11_sizeOf 18 = .ok (.ireturn, 1) := by decide +kernel
theorem dX11_byteOf_0 : decode cX11_byteOf 0 = .ok (.iload_n 1, 1) := by decide +kernel
theorem dX11_byteOf_1 : decode cX11_byteOf 1 = .ok (.iconst (-1), 1) := by decide +kernel
theorem dX11_byteOf_2 : decode cX11_byteOf 2 = .ok (.if_icmp .ne 12, 3) := by decide +kernel
theorem dX11_byteOf_5 : decode cX11_byteOf 5 = .ok (.aload_n 0, 1) := by decide +kernel
theorem dX11_byteOf_6 : decode cX11_byteOf 6 = .ok (.getfield 140, 3) := by decide +kernel
theorem dX11_byteOf_9 : decode cX11_byteOf 9 = .ok (.iload_n 2, 1) := by decide +kernel
theorem dX11_byteOf_10 : decode cX11_byteOf 10 = .ok (.baload, 1) := by decide +kernel
theorem dX11_byteOf_11 : decode cX11_byteOf 11 = .ok (.goto 14, 3) := by decide +kernel
theorem dX11_byteOf_14 : decode cX11_byteOf 14 = .ok (.aload_n 0, 1) := by decide +kernel
theorem dX11_byteOf_15 : decode cX11_byteOf 15 = .ok (.getfield 78, 3) := by decide +kernel
theorem dX11_byteOf_18 : decode cX11_byteOf 18 = .ok (.bipush 40, 2) := by decide +kernel
theorem dX11_byteOf_20 : decode cX11_byteOf 20 = .ok (.iload_n 1, 1) := by decide +kernel
theorem dX11_byteOf_21 : decode cX11_byteOf 21 = .ok (.imul, 1) := by decide +kernel
theorem dX11_byteOf_22 : decode cX11_byteOf 22 = .ok (.iload_n 2, 1) := by decide +kernel
theorem dX11_byteOf_23 : decode cX11_byteOf 23 = .ok (.iadd, 1) := by decide +kernel
theorem dX11_byteOf_24 : decode cX11_byteOf 24 = .ok (.baload, 1) := by decide +kernel
theorem dX11_byteOf_25 : decode cX11_byteOf 25 = .ok (.ireturn, 1) := by decide +kernel
theorem dX11_begin_0 : decode cX11_begin 0 = .ok (.aload_n 0, 1) := by decide +kernel
theorem dX11_begin_1 : decode cX11_begin 1 = .ok (.getfield 143, 3) := by decide +kernel
theorem dX11_begin_4 : decode cX11_begin 4 = .ok (.aload_n 0, 1) := by decide +kernel
theorem dX11_begin_5 : decode cX11_begin 5 = .ok (.getfield 380, 3) := by decide +kernel
theorem dX11_begin_8 : decode cX11_begin 8 = .ok (.iload_n 1, 1) := by decide +kernel
theorem dX11_begin_9 : decode cX11_begin 9 = .ok (.iastore, 1) := by decide +kernel
theorem dX11_begin_10 : decode cX11_begin 10 = .ok (.aload_n 0, 1) := by decide +kernel
theorem dX11_begin_11 : decode cX11_begin 11 = .ok (.getfield 146, 3) := by decide +kernel
theorem dX11_begin_14 : decode cX11_begin 14 = .ok (.aload_n 0, 1) := by decide +kernel
theorem dX11_begin_15 : decode cX11_begin 15 = .ok (.getfield 380, 3) := by decide +kernel
theorem dX11_begin_18 : decode cX11_begin 18 = .ok (.iconst 0, 1) := by decide +kernel
theorem dX11_begin_19 : decode cX11_begin 19 = .ok (.iastore, 1) := by decide +kernel
theorem dX11_begin_20 : decode cX11_begin 20 = .ok (.aload_n 0, 1) := by decide +kernel
theorem dX11_begin_21 : decode cX11_begin 21 = .ok (.dup, 1) := by decide +kernel
theorem dX11_begin_22 : decode cX11_begin 22 = .ok (.getfield 380, 3) := by decide +kernel
theorem dX11_begin_25 : decode cX11_begin 25 = .ok (.iconst 1, 1) := by decide +kernel
theorem dX11_begin_26 : decode cX11_begin 26 = .ok (.iadd, 1) := by decide +kernel
theorem dX11_begin_27 : decode cX11_begin 27 = .ok (.putfield 380, 3) := by decide +kernel
theorem dX11_begin_30 : decode cX11_begin 30 = .ok (.aload_n 0, 1) := by decide +kernel
theorem dX11_begin_31 : decode cX11_begin 31 = .ok (.iload_n 1, 1) := by decide +kernel
theorem dX11_begin_32 : decode cX11_begin 32 = .ok (.invokevirtual 383, 3) := by decide +kernel
theorem dX11_begin_35 : decode cX11_begin 35 = .ok (.ifCond .le 18, 3) := by decide +kernel
theorem dX11_begin_38 : decode cX11_begin 38 = .ok (.aload_n 0, 1) := by decide +kernel
theorem dX11_begin_39 : decode cX11_begin 39 = .ok (.iload_n 1, 1) := by decide +kernel
theorem dX11_begin_40 : decode cX11_begin 40 = .ok (.iconst 0, 1) := by decide +kernel
theorem dX11_begin_41 : decode cX11_begin 41 = .ok (.invokevirtual 386, 3) := by decide +kernel
theorem dX11_begin_44 : decode cX11_begin 44 = .ok (.bipush 47, 2) := by decide +kernel
theorem dX11_begin_46 : decode cX11_begin 46 = .ok (.if_icmp .ne 7, 3) := by decide +kernel
theorem dX11_begin_49 : decode cX11_begin 49 = .ok (.iconst 0, 1) := by decide +kernel
theorem dX11_begin_50 : decode cX11_begin 50 = .ok (.goto 4, 3) := by decide +kernel
theorem dX11_begin_53 : decode cX11_begin 53 = .ok (.iload_n 2, 1) := by decide +kernel
theorem dX11_begin_54 : decode cX11_begin 54 = .ok (.ireturn, 1) := by decide +kernel
theorem dX11_isWhole_0 : decode cX11_isWhole 0 = .ok (.lload_n 0, 1) := by decide +kernel
theorem dX11_isWhole_1 : decode cX11_isWhole 1 = .ok (.invokestatic 342, 3) := by decide +kernel
theorem dX11_isWhole_4 : decode cX11_isWhole 4 = .ok (.ifCond .eq 31, 3) := by decide +kernel
theorem dX11_isWhole_7 : decode cX11_isWhole 7 = .ok (.iload_n 2, 1) := by decide +kernel
theorem dX11_isWhole_8 : decode cX11_isWhole 8 = .ok (.bipush 8, 2) := by decide +kernel
theorem dX11_isWhole_10 : decode cX11_isWhole 10 = .ok (.if_icmp .eq 11, 3) := by decide +kernel
theorem dX11_isWhole_13 : decode cX11_isWhole 13 = .ok (.lload_n 0, 1) := by decide +kernel
theorem dX11_isWhole_14 : decode cX11_isWhole 14 = .ok (.iload_n 2, 1) := by decide +kernel
theorem dX11_isWhole_15 : decode cX11_isWhole 15 = .ok (.invokestatic 308, 3) := by decide +kernel
theorem dX11_isWhole_18 : decode cX11_isWhole 18 = .ok (.ifCond .ne 17, 3) := by decide +kernel
theorem dX11_isWhole_21 : decode cX11_isWhole 21 = .ok (.lload_n 0, 1) := by decide +kernel
theorem dX11_isWhole_22 : decode cX11_isWhole 22 = .ok (.iload_n 2, 1) := by decide +kernel
theorem dX11_isWhole_23 : decode cX11_isWhole 23 = .ok (.iconst 1, 1) := by decide +kernel
theorem dX11_isWhole_24 : decode cX11_isWhole 24 = .ok (.isub, 1) := by decide +kernel
theorem dX11_isWhole_25 : decode cX11_isWhole 25 = .ok (.invokestatic 308, 3) := by decide +kernel
theorem dX11_isWhole_28 : decode cX11_isWhole 28 = .ok (.ifCond .eq 7, 3) := by decide +kernel
theorem dX11_isWhole_31 : decode cX11_isWhole 31 = .ok (.iconst 1, 1) := by decide +kernel
theorem dX11_isWhole_32 : decode cX11_isWhole 32 = .ok (.goto 4, 3) := by decide +kernel
theorem dX11_isWhole_35 : decode cX11_isWhole 35 = .ok (.iconst 0, 1) := by decide +kernel
theorem dX11_isWhole_36 : decode cX11_isWhole 36 = .ok (.ireturn, 1) := by decide +kernel
theorem dX11_part_0 : decode cX11_part 0 = .ok (.aload_n 0, 1) := by decide +kernel
theorem dX11_part_1 : decode cX11_part 1 = .ok (.getfield 143, 3) := by decide +kernel
theorem dX11_part_4 : decode cX11_part 4 = .ok (.aload_n 0, 1) := by decide +kernel
theorem dX11_part_5 : decode cX11_part 5 = .ok (.getfield 380, 3) := by decide +kernel
theorem dX11_part_8 : decode cX11_part 8 = .ok (.iconst 1, 1) := by decide +kernel
theorem dX11_part_9 : decode cX11_part 9 = .ok (.isub, 1) := by decide +kernel
theorem dX11_part_10 : decode cX11_part 10 = .ok (.iaload, 1) := by decide +kernel
theorem dX11_part_11 : decode cX11_part 11 = .ok (.istore_n 2, 1) := by decide +kernel
theorem dX11_part_12 : decode cX11_part 12 = .ok (.aload_n 0, 1) := by decide +kernel
theorem dX11_part_13 : decode cX11_part 13 = .ok (.getfield 146, 3) := by decide +kernel
theorem dX11_part_16 : decode cX11_part 16 = .ok (.aload_n 0, 1) := by decide +kernel
theorem dX11_part_17 : decode cX11_part 17 = .ok (.getfield 380, 3) := by decide +kernel
theorem dX11_part_20 : decode cX11_part 20 = .ok (.iconst 1, 1) := by decide +kernel
theorem dX11_part_21 : decode cX11_part 21 = .ok (.isub, 1) := by decide +kernel
theorem dX11_part_22 : decode cX11_part 22 = .ok (.iaload, 1) := by decide +kernel
theorem dX11_part_23 : decode cX11_part 23 = .ok (.istore_n 3, 1) := by decide +kernel
theorem dX11_part_24 : decode cX11_part 24 = .ok (.iload_n 3, 1) := by decide +kernel
theorem dX11_part_25 : decode cX11_part 25 = .ok (.istore 4, 2) := by decide +kernel
theorem dX11_part_27 : decode cX11_part 27 = .ok (.iload 4, 2) := by decide +kernel
theorem dX11_part_29 : decode cX11_part 29 = .ok (.aload_n 0, 1) := by decide +kernel
theorem dX11_part_30 : decode cX11_part 30 = .ok (.iload_n 2, 1) := by decide +kernel
theorem dX11_part_31 : decode cX11_part 31 = .ok (.invokevirtual 383, 3) := by decide +kernel
theorem dX11_part_34 : decode cX11_part 34 = .ok (.if_icmp .ge 21, 3) := by decide +kernel
theorem dX11_part_37 : decode cX11_part 37 = .ok (.aload_n 0, 1) := by decide +kernel
theorem dX11_part_38 : decode cX11_part 38 = .ok (.iload_n 2, 1) := by decide +kernel
theorem dX11_part_39 : decode cX11_part 39 = .ok (.iload 4, 2) := by decide +kernel
theorem dX11_part_41 : decode cX11_part 41 = .ok (.invokevirtual 386, 3) := by decide +kernel
theorem dX11_part_44 : decode cX11_part 44 = .ok (.bipush 47, 2) := by decide +kernel
theorem dX11_part_46 : decode cX11_part 46 = .ok (.if_icmp .eq 9, 3) := by decide +kernel
theorem dX11_part_49 : decode cX11_part 49 = .ok (.iinc 4 1, 3) := by decide +kernel
theorem dX11_part_52 : decode cX11_part 52 = .ok (.goto (-25), 3) := by decide +kernel
theorem dX11_part_55 : decode cX11_part 55 = .ok (.iload 4, 2) := by decide +kernel
theorem dX11_part_57 : decode cX11_part 57 = .ok (.aload_n 0, 1) := by decide +kernel
theorem dX11_part_58 : decode cX11_part 58 = .ok (.iload_n 2, 1) := by decide +kernel
theorem dX11_part_59 : decode cX11_part 59 = .ok (.invokevirtual 383, 3) := by decide +kernel
theorem dX11_part_62 : decode cX11_part 62 = .ok (.if_icmp .ne 16, 3) := by decide +kernel
theorem dX11_part_65 : decode cX11_part 65 = .ok (.aload_n 0, 1) := by decide +kernel
theorem dX11_part_66 : decode cX11_part 66 = .ok (.dup, 1) := by decide +kernel
theorem dX11_part_67 : decode cX11_part 67 = .ok (.getfield 380, 3) := by decide +kernel
theorem dX11_part_70 : decode cX11_part 70 = .ok (.iconst 1, 1) := by decide +kernel
theorem dX11_part_71 : decode cX11_part 71 = .ok (.isub, 1) := by decide +kernel
theorem dX11_part_72 : decode cX11_part 72 = .ok (.putfield 380, 3) := by decide +kernel
theorem dX11_part_75 : decode cX11_part 75 = .ok (.goto 18, 3) := by decide +kernel
theorem dX11_part_78 : decode cX11_part 78 = .ok (.aload_n 0, 1) := by decide +kernel
theorem dX11_part_79 : decode cX11_part 79 = .ok (.getfield 146, 3) := by decide +kernel
theorem dX11_part_82 : decode cX11_part 82 = .ok (.aload_n 0, 1) := by decide +kernel
theorem dX11_part_83 : decode cX11_part 83 = .ok (.getfield 380, 3) := by decide +kernel
theorem dX11_part_86 : decode cX11_part 86 = .ok (.iconst 1, 1) := by decide +kernel
theorem dX11_part_87 : decode cX11_part 87 = .ok (.isub, 1) := by decide +kernel
theorem dX11_part_88 : decode cX11_part 88 = .ok (.iload 4, 2) := by decide +kernel
theorem dX11_part_90 : decode cX11_part 90 = .ok (.iconst 1, 1) := by decide +kernel
theorem dX11_part_91 : decode cX11_part 91 = .ok (.iadd, 1) := by decide +kernel
theorem dX11_part_92 : decode cX11_part 92 = .ok (.iastore, 1) := by decide +kernel
theorem dX11_part_93 : decode cX11_part 93 = .ok (.aload_n 0, 1) := by decide +kernel
theorem dX11_part_94 : decode cX11_part 94 = .ok (.getfield 40, 3) := by decide +kernel
theorem dX11_part_97 : decode cX11_part 97 = .ok (.iload_n 1, 1) := by decide +kernel
theorem dX11_part_98 : decode cX11_part 98 = .ok (.iaload, 1) := by decide +kernel
theorem dX11_part_99 : decode cX11_part 99 = .ok (.iconst 2, 1) := by decide +kernel
theorem dX11_part_100 : decode cX11_part 100 = .ok (.if_icmp .eq 6, 3) := by decide +kernel
theorem dX11_part_103 : decode cX11_part 103 = .ok (.bipush (-12), 2) := by decide +kernel
theorem dX11_part_105 : decode cX11_part 105 = .ok (.ireturn, 1) := by decide +kernel
theorem dX11_part_106 : decode cX11_part 106 = .ok (.iload 4, 2) := by decide +kernel
theorem dX11_part_108 : decode cX11_part 108 = .ok (.iload_n 3, 1) := by decide +kernel
theorem dX11_part_109 : decode cX11_part 109 = .ok (.isub, 1) := by decide +kernel
theorem dX11_part_110 : decode cX11_part 110 = .ok (.istore 5, 2) := by decide +kernel
theorem dX11_part_112 : decode cX11_part 112 = .ok (.iload 5, 2) := by decide +kernel
theorem dX11_part_114 : decode cX11_part 114 = .ok (.ifCond .le 18, 3) := by decide +kernel
theorem dX11_part_117 : decode cX11_part 117 = .ok (.aload_n 0, 1) := by decide +kernel
theorem dX11_part_118 : decode cX11_part 118 = .ok (.iload_n 2, 1) := by decide +kernel
theorem dX11_part_119 : decode cX11_part 119 = .ok (.iload_n 3, 1) := by decide +kernel
theorem dX11_part_120 : decode cX11_part 120 = .ok (.invokevirtual 386, 3) := by decide +kernel
theorem dX11_part_123 : decode cX11_part 123 = .ok (.bipush 46, 2) := by decide +kernel
theorem dX11_part_125 : decode cX11_part 125 = .ok (.if_icmp .ne 7, 3) := by decide +kernel
theorem dX11_part_128 : decode cX11_part 128 = .ok (.iconst 1, 1) := by decide +kernel
theorem dX11_part_129 : decode cX11_part 129 = .ok (.goto 4, 3) := by decide +kernel
theorem dX11_part_132 : decode cX11_part 132 = .ok (.iconst 0, 1) := by decide +kernel
theorem dX11_part_133 : decode cX11_part 133 = .ok (.istore 6, 2) := by decide +kernel
theorem dX11_part_135 : decode cX11_part 135 = .ok (.iload 5, 2) := by decide +kernel
theorem dX11_part_137 : decode cX11_part 137 = .ok (.ifCond .eq 14, 3) := by decide +kernel
theorem dX11_part_140 : decode cX11_part 140 = .ok (.iload 5, 2) := by decide +kernel
theorem dX11_part_142 : decode cX11_part 142 = .ok (.iconst 1, 1) := by decide +kernel
theorem dX11_part_143 : decode cX11_part 143 = .ok (.if_icmp .ne 10, 3) := by decide +kernel
theorem dX11_part_146 : decode cX11_part 146 = .ok (.iload 6, 2) := by decide +kernel
theorem dX11_part_148 : decode cX11_part 148 = .ok (.ifCond .eq 5, 3) := by decide +kernel
theorem dX11_part_151 : decode cX11_part 151 = .ok (.iload_n 1, 1) := by decide +kernel
theorem dX11_part_152 : decode cX11_part 152 = .ok (.ireturn, 1) := by decide +kernel
theorem dX11_part_153 : decode cX11_part 153 = .ok (.iload 5, 2) := by decide +kernel
theorem dX11_part_155 : decode cX11_part 155 = .ok (.iconst 2, 1) := by decide +kernel
theorem dX11_part_156 : decode cX11_part 156 = .ok (.if_icmp .ne 28, 3) := by decide +kernel
theorem dX11_part_159 : decode cX11_part 159 = .ok (.iload 6, 2) := by decide +kernel
theorem dX11_part_161 : decode cX11_part 161 = .ok (.ifCond .eq 23, 3) := by decide +kernel
theorem dX11_part_164 : decode cX11_part 164 = .ok (.aload_n 0, 1) := by decide +kernel
theorem dX11_part_165 : decode cX11_part 165 = .ok (.iload_n 2, 1) := by decide +kernel
theorem dX11_part_166 : decode cX11_part 166 = .ok (.iload_n 3, 1) := by decide +kernel
theorem dX11_part_167 : decode cX11_part 167 = .ok (.iconst 1, 1) := by decide +kernel
theorem dX11_part_168 : decode cX11_part 168 = .ok (.iadd, 1) := by decide +kernel
theorem dX11_part_169 : decode cX11_part 169 = .ok (.invokevirtual 386, 3) := by decide +kernel
theorem dX11_part_172 : decode cX11_part 172 = .ok (.bipush 46, 2) := by decide +kernel
theorem dX11_part_174 : decode cX11_part 174 = .ok (.if_icmp .ne 10, 3) := by decide +kernel
theorem dX11_part_177 : decode cX11_part 177 = .ok (.aload_n 0, 1) := by decide +kernel
theorem dX11_part_178 : decode cX11_part 178 = .ok (.getfield 46, 3) := by decide +kernel
theorem dX11_part_181 : decode cX11_part 181 = .ok (.iload_n 1, 1) := by decide +kernel
theorem dX11_part_182 : decode cX11_part 182 = .ok (.iaload, 1) := by decide +kernel
theorem dX11_part_183 : decode cX11_part 183 = .ok (.ireturn, 1) := by decide +kernel
theorem dX11_part_184 : decode cX11_part 184 = .ok (.iload 5, 2) := by decide +kernel
theorem dX11_part_186 : decode cX11_part 186 = .ok (.bipush 8, 2) := by decide +kernel
theorem dX11_part_188 : decode cX11_part 188 = .ok (.if_icmp .le 6, 3) := by decide +kernel
theorem dX11_part_191 : decode cX11_part 191 = .ok (.bipush (-11), 2) := by decide +kernel
theorem dX11_part_193 : decode cX11_part 193 = .ok (.ireturn, 1) := by decide +kernel
theorem dX11_part_194 : decode cX11_part 194 = .ok (.lconst 0, 1) := by decide +kernel
theorem dX11_part_195 : decode cX11_part 195 = .ok (.lstore 7, 2) := by decide +kernel
theorem dX11_part_197 : decode cX11_part 197 = .ok (.iload 4, 2) := by decide +kernel
theorem dX11_part_199 : decode cX11_part 199 = .ok (.iconst 1, 1) := by decide +kernel
theorem dX11_part_200 : decode cX11_part 200 = .ok (.isub, 1) := by decide +kernel
theorem dX11_part_201 : decode cX11_part 201 = .ok (.istore 9, 2) := by decide +kernel
theorem dX11_part_203 : decode cX11_part 203 = .ok (.iload 9, 2) := by decide +kernel
theorem dX11_part_205 : decode cX11_part 205 = .ok (.iload_n 3, 1) := by decide +kernel
theorem dX11_part_206 : decode cX11_part 206 = .ok (.if_icmp .lt 29, 3) := by decide +kernel
theorem dX11_part_209 : decode cX11_part 209 = .ok (.lload 7, 2) := by decide +kernel
theorem dX11_part_211 : decode cX11_part 211 = .ok (.bipush 8, 2) := by decide +kernel
theorem dX11_part_213 : decode cX11_part 213 = .ok (.lshl, 1) := by decide +kernel
theorem dX11_part_214 : decode cX11_part 214 = .ok (.aload_n 0, 1) := by decide +kernel
theorem dX11_part_215 : decode cX11_part 215 = .ok (.iload_n 2, 1) := by decide +kernel
theorem dX11_part_216 : decode cX11_part 216 = .ok (.iload 9, 2) := by decide +kernel
theorem dX11_part_218 : decode cX11_part 218 = .ok (.invokevirtual 386, 3) := by decide +kernel
theorem dX11_part_221 : decode cX11_part 221 = .ok (.sipush 255, 3) := by decide +kernel
theorem dX11_part_224 : decode cX11_part 224 = .ok (.iand, 1) := by decide +kernel
theorem dX11_part_225 : decode cX11_part 225 = .ok (.i2l, 1) := by decide +kernel
theorem dX11_part_226 : decode cX11_part 226 = .ok (.lor, 1) := by decide +kernel
theorem dX11_part_227 : decode cX11_part 227 = .ok (.lstore 7, 2) := by decide +kernel
theorem dX11_part_229 : decode cX11_part 229 = .ok (.iinc 9 (-1), 3) := by decide +kernel
theorem dX11_part_232 : decode cX11_part 232 = .ok (.goto (-29), 3) := by decide +kernel
theorem dX11_part_235 : decode cX11_part 235 = .ok (.lload 7, 2) := by decide +kernel
theorem dX11_part_237 : decode cX11_part 237 = .ok (.iload 5, 2) := by decide +kernel
theorem dX11_part_239 : decode cX11_part 239 = .ok (.invokestatic 399, 3) := by decide +kernel
theorem dX11_part_242 : decode cX11_part 242 = .ok (.ifCond .ne 6, 3) := by decide +kernel
theorem dX11_part_245 : decode cX11_part 245 = .ok (.bipush (-11), 2) := by decide +kernel
theorem dX11_part_247 : decode cX11_part 247 = .ok (.ireturn, 1) := by decide +kernel
theorem dX11_part_248 : decode cX11_part 248 = .ok (.aload_n 0, 1) := by decide +kernel
theorem dX11_part_249 : decode cX11_part 249 = .ok (.iload_n 1, 1) := by decide +kernel
theorem dX11_part_250 : decode cX11_part 250 = .ok (.iconst 1, 1) := by decide +kernel
theorem dX11_part_251 : decode cX11_part 251 = .ok (.invokevirtual 346, 3) := by decide +kernel
theorem dX11_part_254 : decode cX11_part 254 = .ok (.ifCond .ne 6, 3) := by decide +kernel
theorem dX11_part_257 : decode cX11_part 257 = .ok (.bipush (-20), 2) := by decide +kernel
theorem dX11_part_259 : decode cX11_part 259 = .ok (.ireturn, 1) := by decide +kernel
theorem dX11_part_260 : decode cX11_part 260 = .ok (.aload_n 0, 1) := by decide +kernel
theorem dX11_part_261 : decode cX11_part 261 = .ok (.iload_n 1, 1) := by decide +kernel
theorem dX11_part_262 : decode cX11_part 262 = .ok (.lload 7, 2) := by decide +kernel
theorem dX11_part_264 : decode cX11_part 264 = .ok (.invokevirtual 349, 3) := by decide +kernel
theorem dX11_part_267 : decode cX11_part 267 = .ok (.istore 9, 2) := by decide +kernel
theorem dX11_part_269 : decode cX11_part 269 = .ok (.iload 9, 2) := by decide +kernel
theorem dX11_part_271 : decode cX11_part 271 = .ok (.iconst (-1), 1) := by decide +kernel
theorem dX11_part_272 : decode cX11_part 272 = .ok (.if_icmp .ne 6, 3) := by decide +kernel
theorem dX11_part_275 : decode cX11_part 275 = .ok (.bipush (-12), 2) := by decide +kernel
theorem dX11_part_277 : decode cX11_part 277 = .ok (.ireturn, 1) := by decide +kernel
theorem dX11_part_278 : decode cX11_part 278 = .ok (.aload_n 0, 1) := by decide +kernel
theorem dX11_part_279 : decode cX11_part 279 = .ok (.getfield 68, 3) := by decide +kernel
theorem dX11_part_282 : decode cX11_part 282 = .ok (.iload 9, 2) := by decide +kernel
theorem dX11_part_284 : decode cX11_part 284 = .ok (.iaload, 1) := by decide +kernel
theorem dX11_part_285 : decode cX11_part 285 = .ok (.istore 10, 2) := by decide +kernel
theorem dX11_part_287 : decode cX11_part 287 = .ok (.aload_n 0, 1) := by decide +kernel
theorem dX11_part_288 : decode cX11_part 288 = .ok (.getfield 40, 3) := by decide +kernel
theorem dX11_part_291 : decode cX11_part 291 = .ok (.iload 10, 2) := by decide +kernel
theorem dX11_part_293 : decode cX11_part 293 = .ok (.iaload, 1) := by decide +kernel
theorem dX11_part_294 : decode cX11_part 294 = .ok (.iconst 4, 1) := by decide +kernel
theorem dX11_part_295 : decode cX11_part 295 = .ok (.if_icmp .eq 6, 3) := by decide +kernel
theorem dX11_part_298 : decode cX11_part 298 = .ok (.iload 10, 2) := by decide +kernel
theorem dX11_part_300 : decode cX11_part 300 = .ok (.ireturn, 1) := by decide +kernel
theorem dX11_part_301 : decode cX11_part 301 = .ok (.aload_n 0, 1) := by decide +kernel
theorem dX11_part_302 : decode cX11_part 302 = .ok (.dup, 1) := by decide +kernel
theorem dX11_part_303 : decode cX11_part 303 = .ok (.getfield 390, 3) := by decide +kernel
theorem dX11_part_306 : decode cX11_part 306 = .ok (.iconst 1, 1) := by decide +kernel
theorem dX11_part_307 : decode cX11_part 307 = .ok (.iadd, 1) := by decide +kernel
theorem dX11_part_308 : decode cX11_part 308 = .ok (.putfield 390, 3) := by decide +kernel
theorem dX11_part_311 : decode cX11_part 311 = .ok (.aload_n 0, 1) := by decide +kernel
theorem dX11_part_312 : decode cX11_part 312 = .ok (.getfield 390, 3) := by decide +kernel
theorem dX11_part_315 : decode cX11_part 315 = .ok (.bipush 8, 2) := by decide +kernel
theorem dX11_part_317 : decode cX11_part 317 = .ok (.if_icmp .le 8, 3) := by decide +kernel
theorem dX11_part_320 : decode cX11_part 320 = .ok (.bipush (-19), 2) := by decide +kernel
theorem dX11_part_322 : decode cX11_part 322 = .ok (.goto 10, 3) := by decide +kernel
theorem dX11_part_325 : decode cX11_part 325 = .ok (.aload_n 0, 1) := by decide +kernel
theorem dX11_part_326 : decode cX11_part 326 = .ok (.iload 10, 2) := by decide +kernel
theorem dX11_part_328 : decode cX11_part 328 = .ok (.iload_n 1, 1) := by decide +kernel
theorem dX11_part_329 : decode cX11_part 329 = .ok (.invokevirtual 393, 3) := by decide +kernel
theorem dX11_part_332 : decode cX11_part 332 = .ok (.ireturn, 1) := by decide +kernel
theorem dX11_walk_0 : decode cX11_walk 0 = .ok (.aload_n 0, 1) := by decide +kernel
theorem dX11_walk_1 : decode cX11_walk 1 = .ok (.aload_n 0, 1) := by decide +kernel
theorem dX11_walk_2 : decode cX11_walk 2 = .ok (.getfield 180, 3) := by decide +kernel
theorem dX11_walk_5 : decode cX11_walk 5 = .ok (.putfield 377, 3) := by decide +kernel
theorem dX11_walk_8 : decode cX11_walk 8 = .ok (.aload_n 0, 1) := by decide +kernel
theorem dX11_walk_9 : decode cX11_walk 9 = .ok (.iconst 0, 1) := by decide +kernel
theorem dX11_walk_10 : decode cX11_walk 10 = .ok (.putfield 180, 3) := by decide +kernel
theorem dX11_walk_13 : decode cX11_walk 13 = .ok (.aload_n 0, 1) := by decide +kernel
theorem dX11_walk_14 : decode cX11_walk 14 = .ok (.getfield 7, 3) := by decide +kernel
theorem dX11_walk_17 : decode cX11_walk 17 = .ok (.ifCond .ne 6, 3) := by decide +kernel
theorem dX11_walk_20 : decode cX11_walk 20 = .ok (.bipush (-99), 2) := by decide +kernel
theorem dX11_walk_22 : decode cX11_walk 22 = .ok (.ireturn, 1) := by decide +kernel
theorem dX11_walk_23 : decode cX11_walk 23 = .ok (.aload_n 0, 1) := by decide +kernel
theorem dX11_walk_24 : decode cX11_walk 24 = .ok (.iload_n 1, 1) := by decide +kernel
theorem dX11_walk_25 : decode cX11_walk 25 = .ok (.invokevirtual 339, 3) := by decide +kernel
theorem dX11_walk_28 : decode cX11_walk 28 = .ok (.ifCond .ne 6, 3) := by decide +kernel
theorem dX11_walk_31 : decode cX11_walk 31 = .ok (.bipush (-10), 2) := by decide +kernel
theorem dX11_walk_33 : decode cX11_walk 33 = .ok (.ireturn, 1) := by decide +kernel
theorem dX11_walk_34 : decode cX11_walk 34 = .ok (.aload_n 0, 1) := by decide +kernel
theorem dX11_walk_35 : decode cX11_walk 35 = .ok (.iconst 0, 1) := by decide +kernel
theorem dX11_walk_36 : decode cX11_walk 36 = .ok (.putfield 380, 3) := by decide +kernel
theorem dX11_walk_39 : decode cX11_walk 39 = .ok (.aload_n 0, 1) := by decide +kernel
theorem dX11_walk_40 : decode cX11_walk 40 = .ok (.iconst 0, 1) := by decide +kernel
theorem dX11_walk_41 : decode cX11_walk 41 = .ok (.putfield 390, 3) := by decide +kernel
theorem dX11_walk_44 : decode cX11_walk 44 = .ok (.aload_n 0, 1) := by decide +kernel
theorem dX11_walk_45 : decode cX11_walk 45 = .ok (.iconst (-1), 1) := by decide +kernel
theorem dX11_walk_46 : decode cX11_walk 46 = .ok (.iload_n 1, 1) := by decide +kernel
theorem dX11_walk_47 : decode cX11_walk 47 = .ok (.invokevirtual 393, 3) := by decide +kernel
theorem dX11_walk_50 : decode cX11_walk 50 = .ok (.istore_n 2, 1) := by decide +kernel
theorem dX11_walk_51 : decode cX11_walk 51 = .ok (.aload_n 0, 1) := by decide +kernel
theorem dX11_walk_52 : decode cX11_walk 52 = .ok (.getfield 380, 3) := by decide +kernel
theorem dX11_walk_55 : decode cX11_walk 55 = .ok (.ifCond .le 16, 3) := by decide +kernel
theorem dX11_walk_58 : decode cX11_walk 58 = .ok (.iload_n 2, 1) := by decide +kernel
theorem dX11_walk_59 : decode cX11_walk 59 = .ok (.ifCond .lt 12, 3) := by decide +kernel
theorem dX11_walk_62 : decode cX11_walk 62 = .ok (.aload_n 0, 1) := by decide +kernel
theorem dX11_walk_63 : decode cX11_walk 63 = .ok (.iload_n 2, 1) := by decide +kernel
theorem dX11_walk_64 : decode cX11_walk 64 = .ok (.invokevirtual 396, 3) := by decide +kernel
theorem dX11_walk_67 : decode cX11_walk 67 = .ok (.istore_n 2, 1) := by decide +kernel
theorem dX11_walk_68 : decode cX11_walk 68 = .ok (.goto (-17), 3) := by decide +kernel
theorem dX11_walk_71 : decode cX11_walk 71 = .ok (.iload_n 2, 1) := by decide +kernel
theorem dX11_walk_72 : decode cX11_walk 72 = .ok (.ireturn, 1) := by decide +kernel
theorem dX11_isEmptyBand_0 : decode cX11_isEmptyBand 0 = .ok (.iload_n 1, 1) := by decide +kernel
theorem dX11_isEmptyBand_1 : decode cX11_isEmptyBand 1 = .ok (.aload_n 0, 1) := by decide +kernel
theorem dX11_isEmptyBand_2 : decode cX11_isEmptyBand 2 = .ok (.getfield 34, 3) := by decide +kernel
theorem dX11_isEmptyBand_5 : decode cX11_isEmptyBand 5 = .ok (.if_icmp .eq 7, 3) := by decide +kernel
theorem dX11_isEmptyBand_8 : decode cX11_isEmptyBand 8 = .ok (.iconst 1, 1) := by decide +kernel
theorem dX11_isEmptyBand_9 : decode cX11_isEmptyBand 9 = .ok (.goto 4, 3) := by decide +kernel
theorem dX11_isEmptyBand_12 : decode cX11_isEmptyBand 12 = .ok (.iconst 0, 1) := by decide +kernel
theorem dX11_isEmptyBand_13 : decode cX11_isEmptyBand 13 = .ok (.istore_n 2, 1) := by decide +kernel
theorem dX11_isEmptyBand_14 : decode cX11_isEmptyBand 14 = .ok (.iload_n 1, 1) := by decide +kernel
theorem dX11_isEmptyBand_15 : decode cX11_isEmptyBand 15 = .ok (.aload_n 0, 1) := by decide +kernel
theorem dX11_isEmptyBand_16 : decode cX11_isEmptyBand 16 = .ok (.getfield 165, 3) := by decide +kernel
theorem dX11_isEmptyBand_19 : decode cX11_isEmptyBand 19 = .ok (.imul, 1) := by decide +kernel
theorem dX11_isEmptyBand_20 : decode cX11_isEmptyBand 20 = .ok (.istore_n 3, 1) := by decide +kernel
theorem dX11_isEmptyBand_21 : decode cX11_isEmptyBand 21 = .ok (.iload_n 3, 1) := by decide +kernel
theorem dX11_isEmptyBand_22 : decode cX11_isEmptyBand 22 = .ok (.iload_n 1, 1) := by decide +kernel
theorem dX11_isEmptyBand_23 : decode cX11_isEmptyBand 23 = .ok (.iconst 1, 1) := by decide +kernel
theorem dX11_isEmptyBand_24 : decode cX11_isEmptyBand 24 = .ok (.iadd, 1) := by decide +kernel
theorem dX11_isEmptyBand_25 : decode cX11_isEmptyBand 25 = .ok (.aload_n 0, 1) := by decide +kernel
theorem dX11_isEmptyBand_26 : decode cX11_isEmptyBand 26 = .ok (.getfield 165, 3) := by decide +kernel
theorem dX11_isEmptyBand_29 : decode cX11_isEmptyBand 29 = .ok (.imul, 1) := by decide +kernel
theorem dX11_isEmptyBand_30 : decode cX11_isEmptyBand 30 = .ok (.if_icmp .ge 37, 3) := by decide +kernel
theorem dX11_isEmptyBand_33 : decode cX11_isEmptyBand 33 = .ok (.iload_n 2, 1) := by decide +kernel
theorem dX11_isEmptyBand_34 : decode cX11_isEmptyBand 34 = .ok (.ifCond .eq 33, 3) := by decide +kernel
theorem dX11_isEmptyBand_37 : decode cX11_isEmptyBand 37 = .ok (.aload_n 0, 1) := by decide +kernel
theorem dX11_isEmptyBand_38 : decode cX11_isEmptyBand 38 = .ok (.getfield 82, 3) := by decide +kernel
theorem dX11_isEmptyBand_41 : decode cX11_isEmptyBand 41 = .ok (.iload_n 3, 1) := by decide +kernel
theorem dX11_isEmptyBand_42 : decode cX11_isEmptyBand 42 = .ok (.baload, 1) := by decide +kernel
theorem dX11_isEmptyBand_43 : decode cX11_isEmptyBand 43 = .ok (.ifCond .ne 16, 3) := by decide +kernel
theorem dX11_isEmptyBand_46 : decode cX11_isEmptyBand 46 = .ok (.aload_n 0, 1) := by decide +kernel
theorem dX11_isEmptyBand_47 : decode cX11_isEmptyBand 47 = .ok (.getfield 128, 3) := by decide +kernel
theorem dX11_isEmptyBand_50 : decode cX11_isEmptyBand 50 = .ok (.iload_n 3, 1) := by decide +kernel
theorem dX11_isEmptyBand_51 : decode cX11_isEmptyBand 51 = .ok (.baload, 1) := by decide +kernel
theorem dX11_isEmptyBand_52 : decode cX11_isEmptyBand 52 = .ok (.ifCond .ne 7, 3) := by decide +kernel
theorem dX11_isEmptyBand_55 : decode cX11_isEmptyBand 55 = .ok (.iconst 1, 1) := by decide +kernel
theorem dX11_isEmptyBand_56 : decode cX11_isEmptyBand 56 = .ok (.goto 4, 3) := by decide +kernel
theorem dX11_isEmptyBand_59 : decode cX11_isEmptyBand 59 = .ok (.iconst 0, 1) := by decide +kernel
theorem dX11_isEmptyBand_60 : decode cX11_isEmptyBand 60 = .ok (.istore_n 2, 1) := by decide +kernel
theorem dX11_isEmptyBand_61 : decode cX11_isEmptyBand 61 = .ok (.iinc 3 1, 3) := by decide +kernel
theorem dX11_isEmptyBand_64 : decode cX11_isEmptyBand 64 = .ok (.goto (-43), 3) := by decide +kernel
theorem dX11_isEmptyBand_67 : decode cX11_isEmptyBand 67 = .ok (.iload_n 2, 1) := by decide +kernel
theorem dX11_isEmptyBand_68 : decode cX11_isEmptyBand 68 = .ok (.ireturn, 1) := by decide +kernel
theorem dX11_emptyBand_0 : decode cX11_emptyBand 0 = .ok (.aload_n 0, 1) := by decide +kernel
theorem dX11_emptyBand_1 : decode cX11_emptyBand 1 = .ok (.getfield 153, 3) := by decide +kernel
theorem dX11_emptyBand_4 : decode cX11_emptyBand 4 = .ok (.iconst 1, 1) := by decide +kernel
theorem dX11_emptyBand_5 : decode cX11_emptyBand 5 = .ok (.isub, 1) := by decide +kernel
theorem dX11_emptyBand_6 : decode cX11_emptyBand 6 = .ok (.istore_n 1, 1) := by decide +kernel
theorem dX11_emptyBand_7 : decode cX11_emptyBand 7 = .ok (.iload_n 1, 1) := by decide +kernel
theorem dX11_emptyBand_8 : decode cX11_emptyBand 8 = .ok (.ifCond .lt 17, 3) := by decide +kernel
theorem dX11_emptyBand_11 : decode cX11_emptyBand 11 = .ok (.aload_n 0, 1) := by decide +kernel
theorem dX11_emptyBand_12 : decode cX11_emptyBand 12 = .ok (.iload_n 1, 1) := by decide +kernel
theorem dX11_emptyBand_13 : decode cX11_emptyBand 13 = .ok (.invokevirtual 403, 3) := by decide +kernel
theorem dX11_emptyBand_16 : decode cX11_emptyBand 16 = .ok (.ifCond .ne 9, 3) := by decide +kernel
theorem dX11_emptyBand_19 : decode cX11_emptyBand 19 = .ok (.iinc 1 (-1), 3) := by decide +kernel
theorem dX11_emptyBand_22 : decode cX11_emptyBand 22 = .ok (.goto (-15), 3) := by decide +kernel
theorem dX11_emptyBand_25 : decode cX11_emptyBand 25 = .ok (.iload_n 1, 1) := by decide +kernel
theorem dX11_emptyBand_26 : decode cX11_emptyBand 26 = .ok (.ireturn, 1) := by decide +kernel
theorem dX11_stream_0 : decode cX11_stream 0 = .ok (.aload_n 0, 1) := by decide +kernel
theorem dX11_stream_1 : decode cX11_stream 1 = .ok (.invokevirtual 226, 3) := by decide +kernel
theorem dX11_stream_4 : decode cX11_stream 4 = .ok (.ifCond .ne 5, 3) := by decide +kernel
theorem dX11_stream_7 : decode cX11_stream 7 = .ok (.iconst 0, 1) := by decide +kernel
theorem dX11_stream_8 : decode cX11_stream 8 = .ok (.ireturn, 1) := by decide +kernel
theorem dX11_stream_9 : decode cX11_stream 9 = .ok (.aload_n 0, 1) := by decide +kernel
theorem dX11_stream_10 : decode cX11_stream 10 = .ok (.getfield 31, 3) := by decide +kernel
theorem dX11_stream_13 : decode cX11_stream 13 = .ok (.iload_n 1, 1) := by decide +kernel
theorem dX11_stream_14 : decode cX11_stream 14 = .ok (.aload_n 0, 1) := by decide +kernel
theorem dX11_stream_15 : decode cX11_stream 15 = .ok (.getfield 199, 3) := by decide +kernel
theorem dX11_stream_18 : decode cX11_stream 18 = .ok (.iastore, 1) := by decide +kernel
theorem dX11_stream_19 : decode cX11_stream 19 = .ok (.aload_n 0, 1) := by decide +kernel
theorem dX11_stream_20 : decode cX11_stream 20 = .ok (.iload_n 1, 1) := by decide +kernel
theorem dX11_stream_21 : decode cX11_stream 21 = .ok (.putfield 37, 3) := by decide +kernel
theorem dX11_stream_24 : decode cX11_stream 24 = .ok (.aload_n 0, 1) := by decide +kernel
theorem dX11_stream_25 : decode cX11_stream 25 = .ok (.invokevirtual 264, 3) := by decide +kernel
theorem dX11_stream_28 : decode cX11_stream 28 = .ok (.ireturn, 1) := by decide +kernel
theorem dX11_lay_0 : decode cX11_lay 0 = .ok (.aload_n 0, 1) := by decide +kernel
theorem dX11_lay_1 : decode cX11_lay 1 = .ok (.getfield 180, 3) := by decide +kernel
theorem dX11_lay_4 : decode cX11_lay 4 = .ok (.istore 4, 2) := by decide +kernel
theorem dX11_lay_6 : decode cX11_lay 6 = .ok (.aload_n 0, 1) := by decide +kernel
theorem dX11_lay_7 : decode cX11_lay 7 = .ok (.iconst 0, 1) := by decide +kernel
theorem dX11_lay_8 : decode cX11_lay 8 = .ok (.putfield 180, 3) := by decide +kernel
theorem dX11_lay_11 : decode cX11_lay 11 = .ok (.aload_n 0, 1) := by decide +kernel
theorem dX11_lay_12 : decode cX11_lay 12 = .ok (.invokevirtual 333, 3) := by decide +kernel
theorem dX11_lay_15 : decode cX11_lay 15 = .ok (.ifCond .ne 6, 3) := by decide +kernel
theorem dX11_lay_18 : decode cX11_lay 18 = .ok (.bipush (-99), 2) := by decide +kernel
theorem dX11_lay_20 : decode cX11_lay 20 = .ok (.ireturn, 1) := by decide +kernel
theorem dX11_lay_21 : decode cX11_lay 21 = .ok (.aload_n 0, 1) := by decide +kernel
theorem dX11_lay_22 : decode cX11_lay 22 = .ok (.iload_n 1, 1) := by decide +kernel
theorem dX11_lay_23 : decode cX11_lay 23 = .ok (.lload_n 2, 1) := by decide +kernel
theorem dX11_lay_24 : decode cX11_lay 24 = .ok (.invokevirtual 353, 3) := by decide +kernel
theorem dX11_lay_27 : decode cX11_lay 27 = .ok (.istore 5, 2) := by decide +kernel
theorem dX11_lay_29 : decode cX11_lay 29 = .ok (.iload 5, 2) := by decide +kernel
theorem dX11_lay_31 : decode cX11_lay 31 = .ok (.ifCond .eq 6, 3) := by decide +kernel
theorem dX11_lay_34 : decode cX11_lay 34 = .ok (.iload 5, 2) := by decide +kernel
theorem dX11_lay_36 : decode cX11_lay 36 = .ok (.ireturn, 1) := by decide +kernel
theorem dX11_lay_37 : decode cX11_lay 37 = .ok (.iload 4, 2) := by decide +kernel
theorem dX11_lay_39 : decode cX11_lay 39 = .ok (.ifCond .ne 6, 3) := by decide +kernel
theorem dX11_lay_42 : decode cX11_lay 42 = .ok (.bipush (-15), 2) := by decide +kernel
theorem dX11_lay_44 : decode cX11_lay 44 = .ok (.ireturn, 1) := by decide +kernel
theorem dX11_lay_45 : decode cX11_lay 45 = .ok (.aload_n 0, 1) := by decide +kernel
theorem dX11_lay_46 : decode cX11_lay 46 = .ok (.invokevirtual 356, 3) := by decide +kernel
theorem dX11_lay_49 : decode cX11_lay 49 = .ok (.istore 6, 2) := by decide +kernel
theorem dX11_lay_51 : decode cX11_lay 51 = .ok (.aload_n 0, 1) := by decide +kernel
theorem dX11_lay_52 : decode cX11_lay 52 = .ok (.invokevirtual 406, 3) := by decide +kernel
theorem dX11_lay_55 : decode cX11_lay 55 = .ok (.istore 7, 2) := by decide +kernel
theorem dX11_lay_57 : decode cX11_lay 57 = .ok (.iload 6, 2) := by decide +kernel
theorem dX11_lay_59 : decode cX11_lay 59 = .ok (.iconst (-1), 1) := by decide +kernel
theorem dX11_lay_60 : decode cX11_lay 60 = .ok (.if_icmp .eq 18, 3) := by decide +kernel
theorem dX11_lay_63 : decode cX11_lay 63 = .ok (.iload 7, 2) := by decide +kernel
theorem dX11_lay_65 : decode cX11_lay 65 = .ok (.ifCond .lt 13, 3) := by decide +kernel
theorem dX11_lay_68 : decode cX11_lay 68 = .ok (.aload_n 0, 1) := by decide +kernel
theorem dX11_lay_69 : decode cX11_lay 69 = .ok (.iload_n 1, 1) := by decide +kernel
theorem dX11_lay_70 : decode cX11_lay 70 = .ok (.iload 7, 2) := by decide +kernel
theorem dX11_lay_72 : decode cX11_lay 72 = .ok (.invokevirtual 359, 3) := by decide +kernel
theorem dX11_lay_75 : decode cX11_lay 75 = .ok (.ifCond .ne 6, 3) := by decide +kernel
theorem dX11_lay_78 : decode cX11_lay 78 = .ok (.bipush (-16), 2) := by decide +kernel
theorem dX11_lay_80 : decode cX11_lay 80 = .ok (.ireturn, 1) := by decide +kernel
theorem dX11_lay_81 : decode cX11_lay 81 = .ok (.aload_n 0, 1) := by decide +kernel
theorem dX11_lay_82 : decode cX11_lay 82 = .ok (.iload 7, 2) := by decide +kernel
theorem dX11_lay_84 : decode cX11_lay 84 = .ok (.invokevirtual 409, 3) := by decide +kernel
theorem dX11_lay_87 : decode cX11_lay 87 = .ok (.ifCond .ne 6, 3) := by decide +kernel
theorem dX11_lay_90 : decode cX11_lay 90 = .ok (.bipush (-99), 2) := by decide +kernel
theorem dX11_lay_92 : decode cX11_lay 92 = .ok (.ireturn, 1) := by decide +kernel
theorem dX11_lay_93 : decode cX11_lay 93 = .ok (.iconst 0, 1) := by decide +kernel
theorem dX11_lay_94 : decode cX11_lay 94 = .ok (.istore 8, 2) := by decide +kernel
theorem dX11_lay_96 : decode cX11_lay 96 = .ok (.iload 8, 2) := by decide +kernel
theorem dX11_lay_98 : decode cX11_lay 98 = .ok (.bipush 64, 2) := by decide +kernel
theorem dX11_lay_100 : decode cX11_lay 100 = .ok (.aload_n 0, 1) := by decide +kernel
theorem dX11_lay_101 : decode cX11_lay 101 = .ok (.getfield 165, 3) := by decide +kernel
theorem dX11_lay_104 : decode cX11_lay 104 = .ok (.imul, 1) := by decide +kernel
theorem dX11_lay_105 : decode cX11_lay 105 = .ok (.if_icmp .ge 65, 3) := by decide +kernel
theorem dX11_lay_108 : decode cX11_lay 108 = .ok (.aload_n 0, 1) := by decide +kernel
theorem dX11_lay_109 : decode cX11_lay 109 = .ok (.getfield 86, 3) := by decide +kernel
theorem dX11_lay_112 : decode cX11_lay 112 = .ok (.bipush 64, 2) := by decide +kernel
theorem dX11_lay_114 : decode cX11_lay 114 = .ok (.aload_n 0, 1) := by decide +kernel
theorem dX11_lay_115 : decode cX11_lay 115 = .ok (.getfield 165, 3) := by decide +kernel
theorem dX11_lay_118 : decode cX11_lay 118 = .ok (.imul, 1) := by decide +kernel
theorem dX11_lay_119 : decode cX11_lay 119 = .ok (.iload 7, 2) := by decide +kernel
theorem dX11_lay_121 : decode cX11_lay 121 = .ok (.imul, 1) := by decide +kernel
theorem dX11_lay_122 : decode cX11_lay 122 = .ok (.iload 8, 2) := by decide +kernel
theorem dX11_lay_124 : decode cX11_lay 124 = .ok (.iadd, 1) := by decide +kernel
theorem dX11_lay_125 : decode cX11_lay 125 = .ok (.aload_n 0, 1) := by decide +kernel
theorem dX11_lay_126 : decode cX11_lay 126 = .ok (.getfield 140, 3) := by decide +kernel
theorem dX11_lay_129 : decode cX11_lay 129 = .ok (.iload 8, 2) := by decide +kernel
theorem dX11_lay_131 : decode cX11_lay 131 = .ok (.iload 4, 2) := by decide +kernel
theorem dX11_lay_133 : decode cX11_lay 133 = .ok (.irem, 1) := by decide +kernel
theorem dX11_lay_134 : decode cX11_lay 134 = .ok (.baload, 1) := by decide +kernel
theorem dX11_lay_135 : decode cX11_lay 135 = .ok (.bastore, 1) := by decide +kernel
theorem dX11_lay_136 : decode cX11_lay 136 = .ok (.aload_n 0, 1) := by decide +kernel
theorem dX11_lay_137 : decode cX11_lay 137 = .ok (.getfield 131, 3) := by decide +kernel
theorem dX11_lay_140 : decode cX11_lay 140 = .ok (.bipush 64, 2) := by decide +kernel
theorem dX11_lay_142 : decode cX11_lay 142 = .ok (.aload_n 0, 1) := by decide +kernel
theorem dX11_lay_143 : decode cX11_lay 143 = .ok (.getfield 165, 3) := by decide +kernel
theorem dX11_lay_146 : decode cX11_lay 146 = .ok (.imul, 1) := by decide +kernel
theorem dX11_lay_147 : decode cX11_lay 147 = .ok (.iload 7, 2) := by decide +kernel
theorem dX11_lay_149 : decode cX11_lay 149 = .ok (.imul, 1) := by decide +kernel
theorem dX11_lay_150 : decode cX11_lay 150 = .ok (.iload 8, 2) := by decide +kernel
theorem dX11_lay_152 : decode cX11_lay 152 = .ok (.iadd, 1) := by decide +kernel
theorem dX11_lay_153 : decode cX11_lay 153 = .ok (.aload_n 0, 1) := by decide +kernel
theorem dX11_lay_154 : decode cX11_lay 154 = .ok (.getfield 140, 3) := by decide +kernel
theorem dX11_lay_157 : decode cX11_lay 157 = .ok (.iload 8, 2) := by decide +kernel
theorem dX11_lay_159 : decode cX11_lay 159 = .ok (.iload 4, 2) := by decide +kernel
theorem dX11_lay_161 : decode cX11_lay 161 = .ok (.irem, 1) := by decide +kernel
theorem dX11_lay_162 : decode cX11_lay 162 = .ok (.baload, 1) := by decide +kernel
theorem dX11_lay_163 : decode cX11_lay 163 = .ok (.bastore, 1) := by decide +kernel
theorem dX11_lay_164 : decode cX11_lay 164 = .ok (.iinc 8 1, 3) := by decide +kernel
theorem dX11_lay_167 : decode cX11_lay 167 = .ok (.goto (-71), 3) := by decide +kernel
theorem dX11_lay_170 : decode cX11_lay 170 = .ok (.iload 7, 2) := by decide +kernel
theorem dX11_lay_172 : decode cX11_lay 172 = .ok (.aload_n 0, 1) := by decide +kernel
theorem dX11_lay_173 : decode cX11_lay 173 = .ok (.getfield 165, 3) := by decide +kernel
theorem dX11_lay_176 : decode cX11_lay 176 = .ok (.imul, 1) := by decide +kernel
theorem dX11_lay_177 : decode cX11_lay 177 = .ok (.istore 8, 2) := by decide +kernel
theorem dX11_lay_179 : decode cX11_lay 179 = .ok (.iload 8, 2) := by decide +kernel
theorem dX11_lay_181 : decode cX11_lay 181 = .ok (.iload 7, 2) := by decide +kernel
theorem dX11_lay_183 : decode cX11_lay 183 = .ok (.iconst 1, 1) := by decide +kernel
theorem dX11_lay_184 : decode cX11_lay 184 = .ok (.iadd, 1) := by decide +kernel
theorem dX11_lay_185 : decode cX11_lay 185 = .ok (.aload_n 0, 1) := by decide +kernel
theorem dX11_lay_186 : decode cX11_lay 186 = .ok (.getfield 165, 3) := by decide +kernel
theorem dX11_lay_189 : decode cX11_lay 189 = .ok (.imul, 1) := by decide +kernel
theorem dX11_lay_190 : decode cX11_lay 190 = .ok (.if_icmp .ge 23, 3) := by decide +kernel
theorem dX11_lay_193 : decode cX11_lay 193 = .ok (.aload_n 0, 1) := by decide +kernel
theorem dX11_lay_194 : decode cX11_lay 194 = .ok (.getfield 82, 3) := by decide +kernel
theorem dX11_lay_197 : decode cX11_lay 197 = .ok (.iload 8, 2) := by decide +kernel
theorem dX11_lay_199 : decode cX11_lay 199 = .ok (.iconst 1, 1) := by decide +kernel
theorem dX11_lay_200 : decode cX11_lay 200 = .ok (.bastore, 1) := by decide +kernel
theorem dX11_lay_201 : decode cX11_lay 201 = .ok (.aload_n 0, 1) := by decide +kernel
theorem dX11_lay_202 : decode cX11_lay 202 = .ok (.iload 8, 2) := by decide +kernel
theorem dX11_lay_204 : decode cX11_lay 204 = .ok (.invokevirtual 300, 3) := by decide +kernel
theorem dX11_lay_207 : decode cX11_lay 207 = .ok (.iinc 8 1, 3) := by decide +kernel
theorem dX11_lay_210 : decode cX11_lay 210 = .ok (.goto (-31), 3) := by decide +kernel
theorem dX11_lay_213 : decode cX11_lay 213 = .ok (.aload_n 0, 1) := by decide +kernel
theorem dX11_lay_214 : decode cX11_lay 214 = .ok (.iload_n 1, 1) := by decide +kernel
theorem dX11_lay_215 : decode cX11_lay 215 = .ok (.lload_n 2, 1) := by decide +kernel
theorem dX11_lay_216 : decode cX11_lay 216 = .ok (.iload 6, 2) := by decide +kernel
theorem dX11_lay_218 : decode cX11_lay 218 = .ok (.iload 7, 2) := by decide +kernel
theorem dX11_lay_220 : decode cX11_lay 220 = .ok (.invokevirtual 362, 3) := by decide +kernel
theorem dX11_lay_223 : decode cX11_lay 223 = .ok (.aload_n 0, 1) := by decide +kernel
theorem dX11_lay_224 : decode cX11_lay 224 = .ok (.iload 6, 2) := by decide +kernel
theorem dX11_lay_226 : decode cX11_lay 226 = .ok (.iconst 3, 1) := by decide +kernel
theorem dX11_lay_227 : decode cX11_lay 227 = .ok (.iload_n 1, 1) := by decide +kernel
theorem dX11_lay_228 : decode cX11_lay 228 = .ok (.invokevirtual 366, 3) := by decide +kernel
theorem dX11_lay_231 : decode cX11_lay 231 = .ok (.pop, 1) := by decide +kernel
theorem dX11_lay_232 : decode cX11_lay 232 = .ok (.aload_n 0, 1) := by decide +kernel
theorem dX11_lay_233 : decode cX11_lay 233 = .ok (.getfield 43, 3) := by decide +kernel
theorem dX11_lay_236 : decode cX11_lay 236 = .ok (.iload 6, 2) := by decide +kernel
theorem dX11_lay_238 : decode cX11_lay 238 = .ok (.bipush 64, 2) := by decide +kernel
theorem dX11_lay_240 : decode cX11_lay 240 = .ok (.aload_n 0, 1) := by decide +kernel
theorem dX11_lay_241 : decode cX11_lay 241 = .ok (.getfield 165, 3) := by decide +kernel
theorem dX11_lay_244 : decode cX11_lay 244 = .ok (.imul, 1) := by decide +kernel
theorem dX11_lay_245 : decode cX11_lay 245 = .ok (.iastore, 1) := by decide +kernel
theorem dX11_lay_246 : decode cX11_lay 246 = .ok (.aload_n 0, 1) := by decide +kernel
theorem dX11_lay_247 : decode cX11_lay 247 = .ok (.getfield 65, 3) := by decide +kernel
theorem dX11_lay_250 : decode cX11_lay 250 = .ok (.bipush 12, 2) := by decide +kernel
theorem dX11_lay_252 : decode cX11_lay 252 = .ok (.iload 6, 2) := by decide +kernel
theorem dX11_lay_254 : decode cX11_lay 254 = .ok (.imul, 1) := by decide +kernel
theorem dX11_lay_255 : decode cX11_lay 255 = .ok (.iload 7, 2) := by decide +kernel
theorem dX11_lay_257 : decode cX11_lay 257 = .ok (.aload_n 0, 1) := by decide +kernel
theorem dX11_lay_258 : decode cX11_lay 258 = .ok (.getfield 165, 3) := by decide +kernel
theorem dX11_lay_261 : decode cX11_lay 261 = .ok (.imul, 1) := by decide +kernel
theorem dX11_lay_262 : decode cX11_lay 262 = .ok (.iastore, 1) := by decide +kernel
theorem dX11_lay_263 : decode cX11_lay 263 = .ok (.iload 6, 2) := by decide +kernel
theorem dX11_lay_265 : decode cX11_lay 265 = .ok (.ireturn, 1) := by decide +kernel
theorem dX11_sectorOf_0 : decode cX11_sectorOf 0 = .ok (.aload_n 0, 1) := by decide +kernel
theorem dX11_sectorOf_1 : decode cX11_sectorOf 1 = .ok (.getfield 40, 3) := by decide +kernel
theorem dX11_sectorOf_4 : decode cX11_sectorOf 4 = .ok (.iload_n 1, 1) := by decide +kernel
theorem dX11_sectorOf_5 : decode cX11_sectorOf 5 = .ok (.iaload, 1) := by decide +kernel
theorem dX11_sectorOf_6 : decode cX11_sectorOf 6 = .ok (.iconst 3, 1) := by decide +kernel
theorem dX11_sectorOf_7 : decode cX11_sectorOf 7 = .ok (.if_icmp .ne 17, 3) := by decide +kernel
theorem dX11_sectorOf_10 : decode cX11_sectorOf 10 = .ok (.aload_n 0, 1) := by decide +kernel
theorem dX11_sectorOf_11 : decode cX11_sectorOf 11 = .ok (.getfield 65, 3) := by decide +kernel
theorem dX11_sectorOf_14 : decode cX11_sectorOf 14 = .ok (.bipush 12, 2) := by decide +kernel
theorem dX11_sectorOf_16 : decode cX11_sectorOf 16 = .ok (.iload_n 1, 1) := by decide +kernel
theorem dX11_sectorOf_17 : decode cX11_sectorOf 17 = .ok (.imul, 1) := by decide +kernel
theorem dX11_sectorOf_18 : decode cX11_sectorOf 18 = .ok (.iaload, 1) := by decide +kernel
theorem dX11_sectorOf_19 : decode cX11_sectorOf 19 = .ok (.iload_n 2, 1) := by decide +kernel
theorem dX11_sectorOf_20 : decode cX11_sectorOf 20 = .ok (.iadd, 1) := by decide +kernel
theorem dX11_sectorOf_21 : decode cX11_sectorOf 21 = .ok (.goto 15, 3) := by decide +kernel
theorem dX11_sectorOf_24 : decode cX11_sectorOf 24 = .ok (.aload_n 0, 1) := by decide +kernel
theorem dX11_sectorOf_25 : decode cX11_sectorOf 25 = .ok (.getfield 53, 3) := by decide +kernel
theorem dX11_sectorOf_28 : decode cX11_sectorOf 28 = .ok (.sipush 1068, 3) := by decide +kernel
theorem dX11_sectorOf_31 : decode cX11_sectorOf 31 = .ok (.iload_n 1, 1) := by decide +kernel
theorem dX11_sectorOf_32 : decode cX11_sectorOf 32 = .ok (.imul, 1) := by decide +kernel
theorem dX11_sectorOf_33 : decode cX11_sectorOf 33 = .ok (.iload_n 2, 1) := by decide +kernel
theorem dX11_sectorOf_34 : decode cX11_sectorOf 34 = .ok (.iadd, 1) := by decide +kernel
theorem dX11_sectorOf_35 : decode cX11_sectorOf 35 = .ok (.iaload, 1) := by decide +kernel
theorem dX11_sectorOf_36 : decode cX11_sectorOf 36 = .ok (.ireturn, 1) := by decide +kernel
theorem dX11_indexOf_0 : decode cX11_indexOf 0 = .ok (.iload_n 0, 1) := by decide +kernel
theorem dX11_indexOf_1 : decode cX11_indexOf 1 = .ok (.bipush 12, 2) := by decide +kernel
theorem dX11_indexOf_3 : decode cX11_indexOf 3 = .ok (.if_icmp .ge 7, 3) := by decide +kernel
theorem dX11_indexOf_6 : decode cX11_indexOf 6 = .ok (.iconst (-1), 1) := by decide +kernel
theorem dX11_indexOf_7 : decode cX11_indexOf 7 = .ok (.goto 22, 3) := by decide +kernel
theorem dX11_indexOf_10 : decode cX11_indexOf 10 = .ok (.iload_n 0, 1) := by decide +kernel
theorem dX11_indexOf_11 : decode cX11_indexOf 11 = .ok (.bipush 44, 2) := by decide +kernel
theorem dX11_indexOf_13 : decode cX11_indexOf 13 = .ok (.if_icmp .ge 7, 3) := by decide +kernel
theorem dX11_indexOf_16 : decode cX11_indexOf 16 = .ok (.iconst 0, 1) := by decide +kernel
theorem dX11_indexOf_17 : decode cX11_indexOf 17 = .ok (.goto 12, 3) := by decide +kernel
theorem dX11_indexOf_20 : decode cX11_indexOf 20 = .ok (.iconst 2, 1) := by decide +kernel
theorem dX11_indexOf_21 : decode cX11_indexOf 21 = .ok (.iload_n 0, 1) := by decide +kernel
theorem dX11_indexOf_22 : decode cX11_indexOf 22 = .ok (.bipush 44, 2) := by decide +kernel
theorem dX11_indexOf_24 : decode cX11_indexOf 24 = .ok (.isub, 1) := by decide +kernel
theorem dX11_indexOf_25 : decode cX11_indexOf 25 = .ok (.bipush 32, 2) := by decide +kernel
theorem dX11_indexOf_27 : decode cX11_indexOf 27 = .ok (.idiv, 1) := by decide +kernel
theorem dX11_indexOf_28 : decode cX11_indexOf 28 = .ok (.iadd, 1) := by decide +kernel
theorem dX11_indexOf_29 : decode cX11_indexOf 29 = .ok (.ireturn, 1) := by decide +kernel
theorem dX11_needs_0 : decode cX11_needs 0 = .ok (.iconst 0, 1) := by decide +kernel
theorem dX11_needs_1 : decode cX11_needs 1 = .ok (.istore 4, 2) := by decide +kernel
theorem dX11_needs_3 : decode cX11_needs 3 = .ok (.iconst (-1), 1) := by decide +kernel
theorem dX11_needs_4 : decode cX11_needs 4 = .ok (.istore 5, 2) := by decide +kernel
theorem dX11_needs_6 : decode cX11_needs 6 = .ok (.iconst 0, 1) := by decide +kernel
theorem dX11_needs_7 : decode cX11_needs 7 = .ok (.istore 6, 2) := by decide +kernel
theorem dX11_needs_9 : decode cX11_needs 9 = .ok (.iload_n 2, 1) := by decide +kernel
theorem dX11_needs_10 : decode cX11_needs 10 = .ok (.istore 7, 2) := by decide +kernel
theorem dX11_needs_12 : decode cX11_needs 12 = .ok (.iload 7, 2) := by decide +kernel
theorem dX11_needs_14 : decode cX11_needs 14 = .ok (.iload_n 3, 1) := by decide +kernel
theorem dX11_needs_15 : decode cX11_needs 15 = .ok (.if_icmp .gt 111, 3) := by decide +kernel
theorem dX11_needs_18 : decode cX11_needs 18 = .ok (.aload_n 0, 1) := by decide +kernel
theorem dX11_needs_19 : decode cX11_needs 19 = .ok (.getfield 53, 3) := by decide +kernel
theorem dX11_needs_22 : decode cX11_needs 22 = .ok (.sipush 1068, 3) := by decide +kernel
theorem dX11_needs_25 : decode cX11_needs 25 = .ok (.iload_n 1, 1) := by decide +kernel
theorem dX11_needs_26 : decode cX11_needs 26 = .ok (.imul, 1) := by decide +kernel
theorem dX11_needs_27 : decode cX11_needs 27 = .ok (.iload 7, 2) := by decide +kernel
theorem dX11_needs_29 : decode cX11_needs 29 = .ok (.iadd, 1) := by decide +kernel
theorem dX11_needs_30 : decode cX11_needs 30 = .ok (.iaload, 1) := by decide +kernel
theorem dX11_needs_31 : decode cX11_needs 31 = .ok (.iconst (-1), 1) := by decide +kernel
theorem dX11_needs_32 : decode cX11_needs 32 = .ok (.if_icmp .eq 6, 3) := by decide +kernel
theorem dX11_needs_35 : decode cX11_needs 35 = .ok (.goto 85, 3) := by decide +kernel
theorem dX11_needs_38 : decode cX11_needs 38 = .ok (.iinc 4 1, 3) := by decide +kernel
theorem dX11_needs_41 : decode cX11_needs 41 = .ok (.iload 7, 2) := by decide +kernel
theorem dX11_needs_43 : decode cX11_needs 43 = .ok (.invokestatic 412, 3) := by decide +kernel
theorem dX11_needs_46 : decode cX11_needs 46 = .ok (.istore 8, 2) := by decide +kernel
theorem dX11_needs_48 : decode cX11_needs 48 = .ok (.iload 8, 2) := by decide +kernel
theorem dX11_needs_50 : decode cX11_needs 50 = .ok (.iconst (-1), 1) := by decide +kernel
theorem dX11_needs_51 : decode cX11_needs 51 = .ok (.if_icmp .eq 69, 3) := by decide +kernel
theorem dX11_needs_54 : decode cX11_needs 54 = .ok (.iload 8, 2) := by decide +kernel
theorem dX11_needs_56 : decode cX11_needs 56 = .ok (.iload 5, 2) := by decide +kernel
theorem dX11_needs_58 : decode cX11_needs 58 = .ok (.if_icmp .eq 62, 3) := by decide +kernel
theorem dX11_needs_61 : decode cX11_needs 61 = .ok (.aload_n 0, 1) := by decide +kernel
theorem dX11_needs_62 : decode cX11_needs 62 = .ok (.getfield 56, 3) := by decide +kernel
theorem dX11_needs_65 : decode cX11_needs 65 = .ok (.bipush 34, 2) := by decide +kernel
theorem dX11_needs_67 : decode cX11_needs 67 = .ok (.iload_n 1, 1) := by decide +kernel
theorem dX11_needs_68 : decode cX11_needs 68 = .ok (.imul, 1) := by decide +kernel
theorem dX11_needs_69 : decode cX11_needs 69 = .ok (.iload 8, 2) := by decide +kernel
theorem dX11_needs_71 : decode cX11_needs 71 = .ok (.iadd, 1) := by decide +kernel
theorem dX11_needs_72 : decode cX11_needs 72 = .ok (.iaload, 1) := by decide +kernel
theorem dX11_needs_73 : decode cX11_needs 73 = .ok (.iconst (-1), 1) := by decide +kernel
theorem dX11_needs_74 : decode cX11_needs 74 = .ok (.if_icmp .eq 6, 3) := by decide +kernel
theorem dX11_needs_77 : decode cX11_needs 77 = .ok (.goto 43, 3) := by decide +kernel
theorem dX11_needs_80 : decode cX11_needs 80 = .ok (.iload 8, 2) := by decide +kernel
theorem dX11_needs_82 : decode cX11_needs 82 = .ok (.istore 5, 2) := by decide +kernel
theorem dX11_needs_84 : decode cX11_needs 84 = .ok (.iinc 4 1, 3) := by decide +kernel
theorem dX11_needs_87 : decode cX11_needs 87 = .ok (.iload 6, 2) := by decide +kernel
theorem dX11_needs_89 : decode cX11_needs 89 = .ok (.ifCond .ne 24, 3) := by decide +kernel
theorem dX11_needs_92 : decode cX11_needs 92 = .ok (.iload 8, 2) := by decide +kernel
theorem dX11_needs_94 : decode cX11_needs 94 = .ok (.iconst 1, 1) := by decide +kernel
theorem dX11_needs_95 : decode cX11_needs 95 = .ok (.if_icmp .le 22, 3) := by decide +kernel
theorem dX11_needs_98 : decode cX11_needs 98 = .ok (.aload_n 0, 1) := by decide +kernel
theorem dX11_needs_99 : decode cX11_needs 99 = .ok (.getfield 56, 3) := by decide +kernel
theorem dX11_needs_102 : decode cX11_needs 102 = .ok (.bipush 34, 2) := by decide +kernel
theorem dX11_needs_104 : decode cX11_needs 104 = .ok (.iload_n 1, 1) := by decide +kernel
theorem dX11_needs_105 : decode cX11_needs 105 = .ok (.imul, 1) := by decide +kernel
theorem dX11_needs_106 : decode cX11_needs 106 = .ok (.iconst 1, 1) := by decide +kernel
theorem dX11_needs_107 : decode cX11_needs 107 = .ok (.iadd, 1) := by decide +kernel
theorem dX11_needs_108 : decode cX11_needs 108 = .ok (.iaload, 1) := by decide +kernel
theorem dX11_needs_109 : decode cX11_needs 109 = .ok (.iconst (-1), 1) := by decide +kernel
theorem dX11_needs_110 : decode cX11_needs 110 = .ok (.if_icmp .ne 7, 3) := by decide +kernel
theorem dX11_needs_113 : decode cX11_needs 113 = .ok (.iconst 1, 1) := by decide +kernel
theorem dX11_needs_114 : decode cX11_needs 114 = .ok (.goto 4, 3) := by decide +kernel
theorem dX11_needs_117 : decode cX11_needs 117 = .ok (.iconst 0, 1) := by decide +kernel
theorem dX11_needs_118 : decode cX11_needs 118 = .ok (.istore 6, 2) := by decide +kernel
theorem dX11_needs_120 : decode cX11_needs 120 = .ok (.iinc 7 1, 3) := by decide +kernel
theorem dX11_needs_123 : decode cX11_needs 123 = .ok (.goto (-111), 3) := by decide +kernel
theorem dX11_needs_126 : decode cX11_needs 126 = .ok (.iload 4, 2) := by decide +kernel
theorem dX11_needs_128 : decode cX11_needs 128 = .ok (.iload 6, 2) := by decide +kernel
theorem dX11_needs_130 : decode cX11_needs 130 = .ok (.ifCond .eq 7, 3) := by decide +kernel
theorem dX11_needs_133 : decode cX11_needs 133 = .ok (.iconst 1, 1) := by decide +kernel
theorem dX11_needs_134 : decode cX11_needs 134 = .ok (.goto 4, 3) := by decide +kernel
theorem dX11_needs_137 : decode cX11_needs 137 = .ok (.iconst 0, 1) := by decide +kernel
theorem dX11_needs_138 : decode cX11_needs 138 = .ok (.iadd, 1) := by decide +kernel
theorem dX11_needs_139 : decode cX11_needs 139 = .ok (.ireturn, 1) := by decide +kernel
theorem dX11_freeBlocks_0 : decode cX11_freeBlocks 0 = .ok (.iconst 0, 1) := by decide +kernel
theorem dX11_freeBlocks_1 : decode cX11_freeBlocks 1 = .ok (.istore_n 1, 1) := by decide +kernel
theorem dX11_freeBlocks_2 : decode cX11_freeBlocks 2 = .ok (.aload_n 0, 1) := by decide +kernel
theorem dX11_freeBlocks_3 : decode cX11_freeBlocks 3 = .ok (.getfield 177, 3) := by decide +kernel
theorem dX11_freeBlocks_6 : decode cX11_freeBlocks 6 = .ok (.istore_n 2, 1) := by decide +kernel
theorem dX11_freeBlocks_7 : decode cX11_freeBlocks 7 = .ok (.iload_n 2, 1) := by decide +kernel
theorem dX11_freeBlocks_8 : decode cX11_freeBlocks 8 = .ok (.aload_n 0, 1) := by decide +kernel
theorem dX11_freeBlocks_9 : decode cX11_freeBlocks 9 = .ok (.getfield 168, 3) := by decide +kernel
theorem dX11_freeBlocks_12 : decode cX11_freeBlocks 12 = .ok (.if_icmp .ge 26, 3) := by decide +kernel
theorem dX11_freeBlocks_15 : decode cX11_freeBlocks 15 = .ok (.iload_n 1, 1) := by decide +kernel
theorem dX11_freeBlocks_16 : decode cX11_freeBlocks 16 = .ok (.aload_n 0, 1) := by decide +kernel
theorem dX11_freeBlocks_17 : decode cX11_freeBlocks 17 = .ok (.getfield 82, 3) := by decide +kernel
theorem dX11_freeBlocks_20 : decode cX11_freeBlocks 20 = .ok (.iload_n 2, 1) := by decide +kernel
theorem dX11_freeBlocks_21 : decode cX11_freeBlocks 21 = .ok (.baload, 1) := by decide +kernel
theorem dX11_freeBlocks_22 : decode cX11_freeBlocks 22 = .ok (.ifCond .eq 7, 3) := by decide +kernel
theorem dX11_freeBlocks_25 : decode cX11_freeBlocks 25 = .ok (.iconst 0, 1) := by decide +kernel
theorem dX11_freeBlocks_26 : decode cX11_freeBlocks 26 = .ok (.goto 4, 3) := by decide +kernel
theorem dX11_freeBlocks_29 : decode cX11_freeBlocks 29 = .ok (.iconst 1, 1) := by decide +kernel
theorem dX11_freeBlocks_30 : decode cX11_freeBlocks 30 = .ok (.iadd, 1) := by decide +kernel
theorem dX11_freeBlocks_31 : decode cX11_freeBlocks 31 = .ok (.istore_n 1, 1) := by decide +kernel
theorem dX11_freeBlocks_32 : decode cX11_freeBlocks 32 = .ok (.iinc 2 1, 3) := by decide +kernel
theorem dX11_freeBlocks_35 : decode cX11_freeBlocks 35 = .ok (.goto (-28), 3) := by decide +kernel
theorem dX11_freeBlocks_38 : decode cX11_freeBlocks 38 = .ok (.iload_n 1, 1) := by decide +kernel
theorem dX11_freeBlocks_39 : decode cX11_freeBlocks 39 = .ok (.ireturn, 1) := by decide +kernel
theorem dX11_soilTeller_0 : decode cX11_soilTeller 0 = .ok (.iload_n 2, 1) := by decide +kernel
theorem dX11_soilTeller_1 : decode cX11_soilTeller 1 = .ok (.iconst 1, 1) := by decide +kernel
theorem dX11_soilTeller_2 : decode cX11_soilTeller 2 = .ok (.if_icmp .le 21, 3) := by decide +kernel
theorem dX11_soilTeller_5 : decode cX11_soilTeller 5 = .ok (.aload_n 0, 1) := by decide +kernel
theorem dX11_soilTeller_6 : decode cX11_soilTeller 6 = .ok (.aload_n 0, 1) := by decide +kernel
theorem dX11_soilTeller_7 : decode cX11_soilTeller 7 = .ok (.getfield 56, 3) := by decide +kernel
theorem dX11_soilTeller_10 : decode cX11_soilTeller 10 = .ok (.bipush 34, 2) := by decide +kernel
theorem dX11_soilTeller_12 : decode cX11_soilTeller 12 = .ok (.iload_n 1, 1) := by decide +kernel
theorem dX11_soilTeller_13 : decode cX11_soilTeller 13 = .ok (.imul, 1) := by decide +kernel
theorem dX11_soilTeller_14 : decode cX11_soilTeller 14 = .ok (.iconst 1, 1) := by decide +kernel
theorem dX11_soilTeller_15 : decode cX11_soilTeller 15 = .ok (.iadd, 1) := by decide +kernel
theorem dX11_soilTeller_16 : decode cX11_soilTeller 16 = .ok (.iaload, 1) := by decide +kernel
theorem dX11_soilTeller_17 : decode cX11_soilTeller 17 = .ok (.invokevirtual 294, 3) := by decide +kernel
theorem dX11_soilTeller_20 : decode cX11_soilTeller 20 = .ok (.goto 8, 3) := by decide +kernel
theorem dX11_soilTeller_23 : decode cX11_soilTeller 23 = .ok (.aload_n 0, 1) := by decide +kernel
theorem dX11_soilTeller_24 : decode cX11_soilTeller 24 = .ok (.iload_n 1, 1) := by decide +kernel
theorem dX11_soilTeller_25 : decode cX11_soilTeller 25 = .ok (.invokevirtual 324, 3) := by decide +kernel
theorem dX11_soilTeller_28 : decode cX11_soilTeller 28 = .ok (.return_, 1) := by decide +kernel
theorem dX11_fillPiece_0 : decode cX11_fillPiece 0 = .ok (.iload_n 2, 1) := by decide +kernel
theorem dX11_fillPiece_1 : decode cX11_fillPiece 1 = .ok (.invokestatic 412, 3) := by decide +kernel
theorem dX11_fillPiece_4 : decode cX11_fillPiece 4 = .ok (.istore_n 3, 1) := by decide +kernel
theorem dX11_fillPiece_5 : decode cX11_fillPiece 5 = .ok (.iload_n 3, 1) := by decide +kernel
theorem dX11_fillPiece_6 : decode cX11_fillPiece 6 = .ok (.iconst (-1), 1) := by decide +kernel
theorem dX11_fillPiece_7 : decode cX11_fillPiece 7 = .ok (.if_icmp .eq 81, 3) := by decide +kernel
theorem dX11_fillPiece_10 : decode cX11_fillPiece 10 = .ok (.aload_n 0, 1) := by decide +kernel
theorem dX11_fillPiece_11 : decode cX11_fillPiece 11 = .ok (.getfield 56, 3) := by decide +kernel
theorem dX11_fillPiece_14 : decode cX11_fillPiece 14 = .ok (.bipush 34, 2) := by decide +kernel
theorem dX11_fillPiece_16 : decode cX11_fillPiece 16 = .ok (.iload_n 1, 1) := by decide +kernel
theorem dX11_fillPiece_17 : decode cX11_fillPiece 17 = .ok (.imul, 1) := by decide +kernel
theorem dX11_fillPiece_18 : decode cX11_fillPiece 18 = .ok (.iload_n 3, 1) := by decide +kernel
theorem dX11_fillPiece_19 : decode cX11_fillPiece 19 = .ok (.iadd, 1) := by decide +kernel
theorem dX11_fillPiece_20 : decode cX11_fillPiece 20 = .ok (.iaload, 1) := by decide +kernel
theorem dX11_fillPiece_21 : decode cX11_fillPiece 21 = .ok (.iconst (-1), 1) := by decide +kernel
theorem dX11_fillPiece_22 : decode cX11_fillPiece 22 = .ok (.if_icmp .ne 66, 3) := by decide +kernel
theorem dX11_fillPiece_25 : decode cX11_fillPiece 25 = .ok (.iload_n 3, 1) := by decide +kernel
theorem dX11_fillPiece_26 : decode cX11_fillPiece 26 = .ok (.iconst 1, 1) := by decide +kernel
theorem dX11_fillPiece_27 : decode cX11_fillPiece 27 = .ok (.if_icmp .le 39, 3) := by decide +kernel
theorem dX11_fillPiece_30 : decode cX11_fillPiece 30 = .ok (.aload_n 0, 1) := by decide +kernel
theorem dX11_fillPiece_31 : decode cX11_fillPiece 31 = .ok (.getfield 56, 3) := by decide +kernel
theorem dX11_fillPiece_34 : decode cX11_fillPiece 34 = .ok (.bipush 34, 2) := by decide +kernel
theorem dX11_fillPiece_36 : decode cX11_fillPiece 36 = .ok (.iload_n 1, 1) := by decide +kernel
theorem dX11_fillPiece_37 : decode cX11_fillPiece 37 = .ok (.imul, 1) := by decide +kernel
theorem dX11_fillPiece_38 : decode cX11_fillPiece 38 = .ok (.iconst 1, 1) := by decide +kernel
theorem dX11_fillPiece_39 : decode cX11_fillPiece 39 = .ok (.iadd, 1) := by decide +kernel
theorem dX11_fillPiece_40 : decode cX11_fillPiece 40 = .ok (.iaload, 1) := by decide +kernel
theorem dX11_fillPiece_41 : decode cX11_fillPiece 41 = .ok (.iconst (-1), 1) := by decide +kernel
theorem dX11_fillPiece_42 : decode cX11_fillPiece 42 = .ok (.if_icmp .ne 24, 3) := by decide +kernel
theorem dX11_fillPiece_45 : decode cX11_fillPiece 45 = .ok (.aload_n 0, 1) := by decide +kernel
theorem dX11_fillPiece_46 : decode cX11_fillPiece 46 = .ok (.getfield 56, 3) := by decide +kernel
theorem dX11_fillPiece_49 : decode cX11_fillPiece 49 = .ok (.bipush 34, 2) := by decide +kernel
theorem dX11_fillPiece_51 : decode cX11_fillPiece 51 = .ok (.iload_n 1, 1) := by decide +kernel
theorem dX11_fillPiece_52 : decode cX11_fillPiece 52 = .ok (.imul, 1) := by decide +kernel
theorem dX11_fillPiece_53 : decode cX11_fillPiece 53 = .ok (.iconst 1, 1) := by decide +kernel
theorem dX11_fillPiece_54 : decode cX11_fillPiece 54 = .ok (.iadd, 1) := by decide +kernel
theorem dX11_fillPiece_55 : decode cX11_fillPiece 55 = .ok (.aload_n 0, 1) := by decide +kernel
theorem dX11_fillPiece_56 : decode cX11_fillPiece 56 = .ok (.iconst (-1), 1) := by decide +kernel
theorem dX11_fillPiece_57 : decode cX11_fillPiece 57 = .ok (.invokevirtual 321, 3) := by decide +kernel
theorem dX11_fillPiece_60 : decode cX11_fillPiece 60 = .ok (.iastore, 1) := by decide +kernel
theorem dX11_fillPiece_61 : decode cX11_fillPiece 61 = .ok (.aload_n 0, 1) := by decide +kernel
theorem dX11_fillPiece_62 : decode cX11_fillPiece 62 = .ok (.iload_n 1, 1) := by decide +kernel
theorem dX11_fillPiece_63 : decode cX11_fillPiece 63 = .ok (.invokevirtual 324, 3) := by decide +kernel
theorem dX11_fillPiece_66 : decode cX11_fillPiece 66 = .ok (.aload_n 0, 1) := by decide +kernel
theorem dX11_fillPiece_67 : decode cX11_fillPiece 67 = .ok (.getfield 56, 3) := by decide +kernel
theorem dX11_fillPiece_70 : decode cX11_fillPiece 70 = .ok (.bipush 34, 2) := by decide +kernel
theorem dX11_fillPiece_72 : decode cX11_fillPiece 72 = .ok (.iload_n 1, 1) := by decide +kernel
theorem dX11_fillPiece_73 : decode cX11_fillPiece 73 = .ok (.imul, 1) := by decide +kernel
theorem dX11_fillPiece_74 : decode cX11_fillPiece 74 = .ok (.iload_n 3, 1) := by decide +kernel
theorem dX11_fillPiece_75 : decode cX11_fillPiece 75 = .ok (.iadd, 1) := by decide +kernel
theorem dX11_fillPiece_76 : decode cX11_fillPiece 76 = .ok (.aload_n 0, 1) := by decide +kernel
theorem dX11_fillPiece_77 : decode cX11_fillPiece 77 = .ok (.iconst (-1), 1) := by decide +kernel
theorem dX11_fillPiece_78 : decode cX11_fillPiece 78 = .ok (.invokevirtual 321, 3) := by decide +kernel
theorem dX11_fillPiece_81 : decode cX11_fillPiece 81 = .ok (.iastore, 1) := by decide +kernel
theorem dX11_fillPiece_82 : decode cX11_fillPiece 82 = .ok (.aload_n 0, 1) := by decide +kernel
theorem dX11_fillPiece_83 : decode cX11_fillPiece 83 = .ok (.iload_n 1, 1) := by decide +kernel
theorem dX11_fillPiece_84 : decode cX11_fillPiece 84 = .ok (.iload_n 3, 1) := by decide +kernel
theorem dX11_fillPiece_85 : decode cX11_fillPiece 85 = .ok (.invokevirtual 415, 3) := by decide +kernel
theorem dX11_fillPiece_88 : decode cX11_fillPiece 88 = .ok (.aload_n 0, 1) := by decide +kernel
theorem dX11_fillPiece_89 : decode cX11_fillPiece 89 = .ok (.getfield 53, 3) := by decide +kernel
theorem dX11_fillPiece_92 : decode cX11_fillPiece 92 = .ok (.sipush 1068, 3) := by decide +kernel
theorem dX11_fillPiece_95 : decode cX11_fillPiece 95 = .ok (.iload_n 1, 1) := by decide +kernel
theorem dX11_fillPiece_96 : decode cX11_fillPiece 96 = .ok (.imul, 1) := by decide +kernel
theorem dX11_fillPiece_97 : decode cX11_fillPiece 97 = .ok (.iload_n 2, 1) := by decide +kernel
theorem dX11_fillPiece_98 : decode cX11_fillPiece 98 = .ok (.iadd, 1) := by decide +kernel
theorem dX11_fillPiece_99 : decode cX11_fillPiece 99 = .ok (.aload_n 0, 1) := by decide +kernel
theorem dX11_fillPiece_100 : decode cX11_fillPiece 100 = .ok (.iconst (-1), 1) := by decide +kernel
theorem dX11_fillPiece_101 : decode cX11_fillPiece 101 = .ok (.invokevirtual 321, 3) := by decide +kernel
theorem dX11_fillPiece_104 : decode cX11_fillPiece 104 = .ok (.iastore, 1) := by decide +kernel
theorem dX11_fillPiece_105 : decode cX11_fillPiece 105 = .ok (.iload_n 3, 1) := by decide +kernel
theorem dX11_fillPiece_106 : decode cX11_fillPiece 106 = .ok (.iconst (-1), 1) := by decide +kernel
theorem dX11_fillPiece_107 : decode cX11_fillPiece 107 = .ok (.if_icmp .ne 11, 3) := by decide +kernel
theorem dX11_fillPiece_110 : decode cX11_fillPiece 110 = .ok (.aload_n 0, 1) := by decide +kernel
theorem dX11_fillPiece_111 : decode cX11_fillPiece 111 = .ok (.iload_n 1, 1) := by decide +kernel
theorem dX11_fillPiece_112 : decode cX11_fillPiece 112 = .ok (.invokevirtual 324, 3) := by decide +kernel
theorem dX11_fillPiece_115 : decode cX11_fillPiece 115 = .ok (.goto 18, 3) := by decide +kernel
theorem dX11_fillPiece_118 : decode cX11_fillPiece 118 = .ok (.aload_n 0, 1) := by decide +kernel
theorem dX11_fillPiece_119 : decode cX11_fillPiece 119 = .ok (.aload_n 0, 1) := by decide +kernel
theorem dX11_fillPiece_120 : decode cX11_fillPiece 120 = .ok (.getfield 56, 3) := by decide +kernel
theorem dX11_fillPiece_123 : decode cX11_fillPiece 123 = .ok (.bipush 34, 2) := by decide +kernel
theorem dX11_fillPiece_125 : decode cX11_fillPiece 125 = .ok (.iload_n 1, 1) := by decide +kernel
theorem dX11_fillPiece_126 : decode cX11_fillPiece 126 = .ok (.imul, 1) := by decide +kernel
theorem dX11_fillPiece_127 : decode cX11_fillPiece 127 = .ok (.iload_n 3, 1) := by decide +kernel
theorem dX11_fillPiece_128 : decode cX11_fillPiece 128 = .ok (.iadd, 1) := by decide +kernel
theorem dX11_fillPiece_129 : decode cX11_fillPiece 129 = .ok (.iaload, 1) := by decide +kernel
theorem dX11_fillPiece_130 : decode cX11_fillPiece 130 = .ok (.invokevirtual 294, 3) := by decide +kernel
theorem dX11_fillPiece_133 : decode cX11_fillPiece 133 = .ok (.return_, 1) := by decide +kernel
theorem dX11_put_0 : decode cX11_put 0 = .ok (.aload_n 0, 1) := by decide +kernel
theorem dX11_put_1 : decode cX11_put 1 = .ok (.getfield 180, 3) := by decide +kernel
theorem dX11_put_4 : decode cX11_put 4 = .ok (.istore_n 3, 1) := by decide +kernel
theorem dX11_put_5 : decode cX11_put 5 = .ok (.aload_n 0, 1) := by decide +kernel
theorem dX11_put_6 : decode cX11_put 6 = .ok (.iconst 0, 1) := by decide +kernel
theorem dX11_put_7 : decode cX11_put 7 = .ok (.putfield 180, 3) := by decide +kernel
theorem dX11_put_10 : decode cX11_put 10 = .ok (.aload_n 0, 1) := by decide +kernel
theorem dX11_put_11 : decode cX11_put 11 = .ok (.invokevirtual 333, 3) := by decide +kernel
theorem dX11_put_14 : decode cX11_put 14 = .ok (.ifCond .ne 6, 3) := by decide +kernel
theorem dX11_put_17 : decode cX11_put 17 = .ok (.bipush (-99), 2) := by decide +kernel
theorem dX11_put_19 : decode cX11_put 19 = .ok (.ireturn, 1) := by decide +kernel
theorem dX11_put_20 : decode cX11_put 20 = .ok (.aload_n 0, 1) := by decide +kernel
theorem dX11_put_21 : decode cX11_put 21 = .ok (.iload_n 1, 1) := by decide +kernel
theorem dX11_put_22 : decode cX11_put 22 = .ok (.iconst 1, 1) := by decide +kernel
theorem dX11_put_23 : decode cX11_put 23 = .ok (.invokevirtual 373, 3) := by decide +kernel
theorem dX11_put_26 : decode cX11_put 26 = .ok (.ifCond .ne 6, 3) := by decide +kernel
theorem dX11_put_29 : decode cX11_put 29 = .ok (.bipush (-14), 2) := by decide +kernel
theorem dX11_put_31 : decode cX11_put 31 = .ok (.ireturn, 1) := by decide +kernel
theorem dX11_put_32 : decode cX11_put 32 = .ok (.aload_n 0, 1) := by decide +kernel
theorem dX11_put_33 : decode cX11_put 33 = .ok (.iload_n 1, 1) := by decide +kernel
theorem dX11_put_34 : decode cX11_put 34 = .ok (.iconst 2, 1) := by decide +kernel
theorem dX11_put_35 : decode cX11_put 35 = .ok (.invokevirtual 346, 3) := by decide +kernel
theorem dX11_put_38 : decode cX11_put 38 = .ok (.ifCond .ne 6, 3) := by decide +kernel
theorem dX11_put_41 : decode cX11_put 41 = .ok (.bipush (-20), 2) := by decide +kernel
theorem dX11_put_43 : decode cX11_put 43 = .ok (.ireturn, 1) := by decide +kernel
theorem dX11_put_44 : decode cX11_put 44 = .ok (.aload_n 0, 1) := by decide +kernel
theorem dX11_put_45 : decode cX11_put 45 = .ok (.getfield 40, 3) := by decide +kernel
theorem dX11_put_48 : decode cX11_put 48 = .ok (.iload_n 1, 1) := by decide +kernel
theorem dX11_put_49 : decode cX11_put 49 = .ok (.iaload, 1) := by decide +kernel
theorem dX11_put_50 : decode cX11_put 50 = .ok (.iconst 3, 1) := by decide +kernel
theorem dX11_put_51 : decode cX11_put 51 = .ok (.if_icmp .ne 12, 3) := by decide +kernel
theorem dX11_put_54 : decode cX11_put 54 = .ok (.aload_n 0, 1) := by decide +kernel
theorem dX11_put_55 : decode cX11_put 55 = .ok (.getfield 43, 3) := by decide +kernel
theorem dX11_put_58 : decode cX11_put 58 = .ok (.iload_n 1, 1) := by decide +kernel
theorem dX11_put_59 : decode cX11_put 59 = .ok (.iaload, 1) := by decide +kernel
theorem dX11_put_60 : decode cX11_put 60 = .ok (.goto 5, 3) := by decide +kernel
theorem dX11_put_63 : decode cX11_put 63 = .ok (.ldc 52, 2) := by decide +kernel
theorem dX11_put_65 : decode cX11_put 65 = .ok (.istore 4, 2) := by decide +kernel
theorem dX11_put_67 : decode cX11_put 67 = .ok (.iload_n 2, 1) := by decide +kernel
theorem dX11_put_68 : decode cX11_put 68 = .ok (.ifCond .lt 11, 3) := by decide +kernel
theorem dX11_put_71 : decode cX11_put 71 = .ok (.iload_n 2, 1) := by decide +kernel
theorem dX11_put_72 : decode cX11_put 72 = .ok (.iload 4, 2) := by decide +kernel
theorem dX11_put_74 : decode cX11_put 74 = .ok (.iload_n 3, 1) := by decide +kernel
theorem dX11_put_75 : decode cX11_put 75 = .ok (.isub, 1) := by decide +kernel
theorem dX11_put_76 : decode cX11_put 76 = .ok (.if_icmp .le 6, 3) := by decide +kernel
theorem dX11_put_79 : decode cX11_put 79 = .ok (.bipush (-15), 2) := by decide +kernel
theorem dX11_put_81 : decode cX11_put 81 = .ok (.ireturn, 1) := by decide +kernel
theorem dX11_put_82 : decode cX11_put 82 = .ok (.iload_n 3, 1) := by decide +kernel
theorem dX11_put_83 : decode cX11_put 83 = .ok (.ifCond .ne 5, 3) := by decide +kernel
theorem dX11_put_86 : decode cX11_put 86 = .ok (.iconst 0, 1) := by decide +kernel
theorem dX11_put_87 : decode cX11_put 87 = .ok (.ireturn, 1) := by decide +kernel
theorem dX11_put_88 : decode cX11_put 88 = .ok (.aload_n 0, 1) := by decide +kernel
theorem dX11_put_89 : decode cX11_put 89 = .ok (.getfield 40, 3) := by decide +kernel
theorem dX11_put_92 : decode cX11_put 92 = .ok (.iload_n 1, 1) := by decide +kernel
theorem dX11_put_93 : decode cX11_put 93 = .ok (.iaload, 1) := by decide +kernel
theorem dX11_put_94 : decode cX11_put 94 = .ok (.iconst 1, 1) := by decide +kernel
theorem dX11_put_95 : decode cX11_put 95 = .ok (.if_icmp .ne 103, 3) := by decide +kernel
theorem dX11_put_98 : decode cX11_put 98 = .ok (.iload_n 2, 1) := by decide +kernel
theorem dX11_put_99 : decode cX11_put 99 = .ok (.iload_n 3, 1) := by decide +kernel
theorem dX11_put_100 : decode cX11_put 100 = .ok (.iadd, 1) := by decide +kernel
theorem dX11_put_101 : decode cX11_put 101 = .ok (.iconst 1, 1) := by decide +kernel
theorem dX11_put_102 : decode cX11_put 102 = .ok (.isub, 1) := by decide +kernel
theorem dX11_put_103 : decode cX11_put 103 = .ok (.bipush 64, 2) := by decide +kernel
theorem dX11_put_105 : decode cX11_put 105 = .ok (.idiv, 1) := by decide +kernel
theorem dX11_put_106 : decode cX11_put 106 = .ok (.istore 5, 2) := by decide +kernel
theorem dX11_put_108 : decode cX11_put 108 = .ok (.aload_n 0, 1) := by decide +kernel
theorem dX11_put_109 : decode cX11_put 109 = .ok (.iload_n 1, 1) := by decide +kernel
theorem dX11_put_110 : decode cX11_put 110 = .ok (.iload_n 2, 1) := by decide +kernel
theorem dX11_put_111 : decode cX11_put 111 = .ok (.bipush 64, 2) := by decide +kernel
theorem dX11_put_113 : decode cX11_put 113 = .ok (.idiv, 1) := by decide +kernel
theorem dX11_put_114 : decode cX11_put 114 = .ok (.iload 5, 2) := by decide +kernel
theorem dX11_put_116 : decode cX11_put 116 = .ok (.invokevirtual 419, 3) := by decide +kernel
theorem dX11_put_119 : decode cX11_put 119 = .ok (.aload_n 0, 1) := by decide +kernel
theorem dX11_put_120 : decode cX11_put 120 = .ok (.invokevirtual 422, 3) := by decide +kernel
theorem dX11_put_123 : decode cX11_put 123 = .ok (.if_icmp .le 6, 3) := by decide +kernel
theorem dX11_put_126 : decode cX11_put 126 = .ok (.bipush (-16), 2) := by decide +kernel
theorem dX11_put_128 : decode cX11_put 128 = .ok (.ireturn, 1) := by decide +kernel
theorem dX11_put_129 : decode cX11_put 129 = .ok (.iload_n 2, 1) := by decide +kernel
theorem dX11_put_130 : decode cX11_put 130 = .ok (.bipush 64, 2) := by decide +kernel
theorem dX11_put_132 : decode cX11_put 132 = .ok (.idiv, 1) := by decide +kernel
theorem dX11_put_133 : decode cX11_put 133 = .ok (.istore 6, 2) := by decide +kernel
theorem dX11_put_135 : decode cX11_put 135 = .ok (.iload 6, 2) := by decide +kernel
theorem dX11_put_137 : decode cX11_put 137 = .ok (.iload 5, 2) := by decide +kernel
theorem dX11_put_139 : decode cX11_put 139 = .ok (.if_icmp .gt 33, 3) := by decide +kernel
theorem dX11_put_142 : decode cX11_put 142 = .ok (.aload_n 0, 1) := by decide +kernel
theorem dX11_put_143 : decode cX11_put 143 = .ok (.getfield 53, 3) := by decide +kernel
theorem dX11_put_146 : decode cX11_put 146 = .ok (.sipush 1068, 3) := by decide +kernel
theorem dX11_put_149 : decode cX11_put 149 = .ok (.iload_n 1, 1) := by decide +kernel
theorem dX11_put_150 : decode cX11_put 150 = .ok (.imul, 1) := by decide +kernel
theorem dX11_put_151 : decode cX11_put 151 = .ok (.iload 6, 2) := by decide +kernel
theorem dX11_put_153 : decode cX11_put 153 = .ok (.iadd, 1) := by decide +kernel
theorem dX11_put_154 : decode cX11_put 154 = .ok (.iaload, 1) := by decide +kernel
theorem dX11_put_155 : decode cX11_put 155 = .ok (.iconst (-1), 1) := by decide +kernel
theorem dX11_put_156 : decode cX11_put 156 = .ok (.if_icmp .ne 10, 3) := by decide +kernel
theorem dX11_put_159 : decode cX11_put 159 = .ok (.aload_n 0, 1) := by decide +kernel
theorem dX11_put_160 : decode cX11_put 160 = .ok (.iload_n 1, 1) := by decide +kernel
theorem dX11_put_161 : decode cX11_put 161 = .ok (.iload 6, 2) := by decide +kernel
theorem dX11_put_163 : decode cX11_put 163 = .ok (.invokevirtual 425, 3) := by decide +kernel
theorem dX11_put_166 : decode cX11_put 166 = .ok (.iinc 6 1, 3) := by decide +kernel
theorem dX11_put_169 : decode cX11_put 169 = .ok (.goto (-34), 3) := by decide +kernel
theorem dX11_put_172 : decode cX11_put 172 = .ok (.iload_n 2, 1) := by decide +kernel
theorem dX11_put_173 : decode cX11_put 173 = .ok (.iload_n 3, 1) := by decide +kernel
theorem dX11_put_174 : decode cX11_put 174 = .ok (.iadd, 1) := by decide +kernel
theorem dX11_put_175 : decode cX11_put 175 = .ok (.aload_n 0, 1) := by decide +kernel
theorem dX11_put_176 : decode cX11_put 176 = .ok (.getfield 43, 3) := by decide +kernel
theorem dX11_put_179 : decode cX11_put 179 = .ok (.iload_n 1, 1) := by decide +kernel
theorem dX11_put_180 : decode cX11_put 180 = .ok (.iaload, 1) := by decide +kernel
theorem dX11_put_181 : decode cX11_put 181 = .ok (.if_icmp .le 17, 3) := by decide +kernel
theorem dX11_put_184 : decode cX11_put 184 = .ok (.aload_n 0, 1) := by decide +kernel
theorem dX11_put_185 : decode cX11_put 185 = .ok (.getfield 43, 3) := by decide +kernel
theorem dX11_put_188 : decode cX11_put 188 = .ok (.iload_n 1, 1) := by decide +kernel
theorem dX11_put_189 : decode cX11_put 189 = .ok (.iload_n 2, 1) := by decide +kernel
theorem dX11_put_190 : decode cX11_put 190 = .ok (.iload_n 3, 1) := by decide +kernel
theorem dX11_put_191 : decode cX11_put 191 = .ok (.iadd, 1) := by decide +kernel
theorem dX11_put_192 : decode cX11_put 192 = .ok (.iastore, 1) := by decide +kernel
theorem dX11_put_193 : decode cX11_put 193 = .ok (.aload_n 0, 1) := by decide +kernel
theorem dX11_put_194 : decode cX11_put 194 = .ok (.iload_n 1, 1) := by decide +kernel
theorem dX11_put_195 : decode cX11_put 195 = .ok (.invokevirtual 324, 3) := by decide +kernel
theorem dX11_put_198 : decode cX11_put 198 = .ok (.iconst 0, 1) := by decide +kernel
theorem dX11_put_199 : decode cX11_put 199 = .ok (.istore 5, 2) := by decide +kernel
theorem dX11_put_201 : decode cX11_put 201 = .ok (.iload 5, 2) := by decide +kernel
theorem dX11_put_203 : decode cX11_put 203 = .ok (.iload_n 3, 1) := by decide +kernel
theorem dX11_put_204 : decode cX11_put 204 = .ok (.if_icmp .ge 54, 3) := by decide +kernel
theorem dX11_put_207 : decode cX11_put 207 = .ok (.aload_n 0, 1) := by decide +kernel
theorem dX11_put_208 : decode cX11_put 208 = .ok (.iload_n 1, 1) := by decide +kernel
theorem dX11_put_209 : decode cX11_put 209 = .ok (.iload_n 2, 1) := by decide +kernel
theorem dX11_put_210 : decode cX11_put 210 = .ok (.iload 5, 2) := by decide +kernel
theorem dX11_put_212 : decode cX11_put 212 = .ok (.iadd, 1) := by decide +kernel
theorem dX11_put_213 : decode cX11_put 213 = .ok (.bipush 64, 2) := by decide +kernel
theorem dX11_put_215 : decode cX11_put 215 = .ok (.idiv, 1) := by decide +kernel
theorem dX11_put_216 : decode cX11_put 216 = .ok (.invokevirtual 428, 3) := by decide +kernel
theorem dX11_put_219 : decode cX11_put 219 = .ok (.istore 6, 2) := by decide +kernel
theorem dX11_put_221 : decode cX11_put 221 = .ok (.aload_n 0, 1) := by decide +kernel
theorem dX11_put_222 : decode cX11_put 222 = .ok (.getfield 86, 3) := by decide +kernel
theorem dX11_put_225 : decode cX11_put 225 = .ok (.bipush 64, 2) := by decide +kernel
theorem dX11_put_227 : decode cX11_put 227 = .ok (.iload 6, 2) := by decide +kernel
theorem dX11_put_229 : decode cX11_put 229 = .ok (.imul, 1) := by decide +kernel
theorem dX11_put_230 : decode cX11_put 230 = .ok (.iload_n 2, 1) := by decide +kernel
theorem dX11_put_231 : decode cX11_put 231 = .ok (.iload 5, 2) := by decide +kernel
theorem dX11_put_233 : decode cX11_put 233 = .ok (.iadd, 1) := by decide +kernel
theorem dX11_put_234 : decode cX11_put 234 = .ok (.bipush 64, 2) := by decide +kernel
theorem dX11_put_236 : decode cX11_put 236 = .ok (.irem, 1) := by decide +kernel
theorem dX11_put_237 : decode cX11_put 237 = .ok (.iadd, 1) := by decide +kernel
theorem dX11_put_238 : decode cX11_put 238 = .ok (.aload_n 0, 1) := by decide +kernel
theorem dX11_put_239 : decode cX11_put 239 = .ok (.getfield 140, 3) := by decide +kernel
theorem dX11_put_242 : decode cX11_put 242 = .ok (.iload 5, 2) := by decide +kernel
theorem dX11_put_244 : decode cX11_put 244 = .ok (.baload, 1) := by decide +kernel
theorem dX11_put_245 : decode cX11_put 245 = .ok (.bastore, 1) := by decide +kernel
theorem dX11_put_246 : decode cX11_put 246 = .ok (.aload_n 0, 1) := by decide +kernel
theorem dX11_put_247 : decode cX11_put 247 = .ok (.iload 6, 2) := by decide +kernel
theorem dX11_put_249 : decode cX11_put 249 = .ok (.invokevirtual 294, 3) := by decide +kernel
theorem dX11_put_252 : decode cX11_put 252 = .ok (.iinc 5 1, 3) := by decide +kernel
theorem dX11_put_255 : decode cX11_put 255 = .ok (.goto (-54), 3) := by decide +kernel
theorem dX11_put_258 : decode cX11_put 258 = .ok (.iload_n 3, 1) := by decide +kernel
theorem dX11_put_259 : decode cX11_put 259 = .ok (.ireturn, 1) := by decide +kernel
theorem dX11_wash_0 : decode cX11_wash 0 = .ok (.aload_n 0, 1) := by decide +kernel
theorem dX11_wash_1 : decode cX11_wash 1 = .ok (.dup, 1) := by decide +kernel
theorem dX11_wash_2 : decode cX11_wash 2 = .ok (.getfield 267, 3) := by decide +kernel
theorem dX11_wash_5 : decode cX11_wash 5 = .ok (.aload_n 0, 1) := by decide +kernel
theorem dX11_wash_6 : decode cX11_wash 6 = .ok (.getfield 134, 3) := by decide +kernel
theorem dX11_wash_9 : decode cX11_wash 9 = .ok (.iload_n 1, 1) := by decide +kernel
theorem dX11_wash_10 : decode cX11_wash 10 = .ok (.baload, 1) := by decide +kernel
theorem dX11_wash_11 : decode cX11_wash 11 = .ok (.ifCond .eq 7, 3) := by decide +kernel
theorem dX11_wash_14 : decode cX11_wash 14 = .ok (.iconst 1, 1) := by decide +kernel
theorem dX11_wash_15 : decode cX11_wash 15 = .ok (.goto 4, 3) := by decide +kernel
theorem dX11_wash_18 : decode cX11_wash 18 = .ok (.iconst 0, 1) := by decide +kernel
theorem dX11_wash_19 : decode cX11_wash 19 = .ok (.isub, 1) := by decide +kernel
theorem dX11_wash_20 : decode cX11_wash 20 = .ok (.putfield 267, 3) := by decide +kernel
theorem dX11_wash_23 : decode cX11_wash 23 = .ok (.aload_n 0, 1) := by decide +kernel
theorem dX11_wash_24 : decode cX11_wash 24 = .ok (.getfield 134, 3) := by decide +kernel
theorem dX11_wash_27 : decode cX11_wash 27 = .ok (.iload_n 1, 1) := by decide +kernel
theorem dX11_wash_28 : decode cX11_wash 28 = .ok (.iconst 0, 1) := by decide +kernel
theorem dX11_wash_29 : decode cX11_wash 29 = .ok (.bastore, 1) := by decide +kernel
theorem dX11_wash_30 : decode cX11_wash 30 = .ok (.return_, 1) := by decide +kernel
theorem dX11_giveBlock_0 : decode cX11_giveBlock 0 = .ok (.aload_n 0, 1) := by decide +kernel
theorem dX11_giveBlock_1 : decode cX11_giveBlock 1 = .ok (.getfield 82, 3) := by decide +kernel
theorem dX11_giveBlock_4 : decode cX11_giveBlock 4 = .ok (.iload_n 1, 1) := by decide +kernel
theorem dX11_giveBlock_5 : decode cX11_giveBlock 5 = .ok (.iconst 0, 1) := by decide +kernel
theorem dX11_giveBlock_6 : decode cX11_giveBlock 6 = .ok (.bastore, 1) := by decide +kernel
theorem dX11_giveBlock_7 : decode cX11_giveBlock 7 = .ok (.aload_n 0, 1) := by decide +kernel
theorem dX11_giveBlock_8 : decode cX11_giveBlock 8 = .ok (.iload_n 1, 1) := by decide +kernel
theorem dX11_giveBlock_9 : decode cX11_giveBlock 9 = .ok (.invokevirtual 300, 3) := by decide +kernel
theorem dX11_giveBlock_12 : decode cX11_giveBlock 12 = .ok (.aload_n 0, 1) := by decide +kernel
theorem dX11_giveBlock_13 : decode cX11_giveBlock 13 = .ok (.iload_n 1, 1) := by decide +kernel
theorem dX11_giveBlock_14 : decode cX11_giveBlock 14 = .ok (.invokevirtual 303, 3) := by decide +kernel
theorem dX11_giveBlock_17 : decode cX11_giveBlock 17 = .ok (.return_, 1) := by decide +kernel
theorem dX11_tellsSome_0 : decode cX11_tellsSome 0 = .ok (.iload_n 2, 1) := by decide +kernel
theorem dX11_tellsSome_1 : decode cX11_tellsSome 1 = .ok (.ifCond .ne 8, 3) := by decide +kernel
theorem dX11_tellsSome_4 : decode cX11_tellsSome 4 = .ok (.bipush 12, 2) := by decide +kernel
theorem dX11_tellsSome_6 : decode cX11_tellsSome 6 = .ok (.goto 12, 3) := by decide +kernel
theorem dX11_tellsSome_9 : decode cX11_tellsSome 9 = .ok (.bipush 44, 2) := by decide +kernel
theorem dX11_tellsSome_11 : decode cX11_tellsSome 11 = .ok (.bipush 32, 2) := by decide +kernel
theorem dX11_tellsSome_13 : decode cX11_tellsSome 13 = .ok (.iload_n 2, 1) := by decide +kernel
theorem dX11_tellsSome_14 : decode cX11_tellsSome 14 = .ok (.iconst 2, 1) := by decide +kernel
theorem dX11_tellsSome_15 : decode cX11_tellsSome 15 = .ok (.isub, 1) := by decide +kernel
theorem dX11_tellsSome_16 : decode cX11_tellsSome 16 = .ok (.imul, 1) := by decide +kernel
theorem dX11_tellsSome_17 : decode cX11_tellsSome 17 = .ok (.iadd, 1) := by decide +kernel
theorem dX11_tellsSome_18 : decode cX11_tellsSome 18 = .ok (.istore_n 3, 1) := by decide +kernel
theorem dX11_tellsSome_19 : decode cX11_tellsSome 19 = .ok (.iload_n 3, 1) := by decide +kernel
theorem dX11_tellsSome_20 : decode cX11_tellsSome 20 = .ok (.istore 4, 2) := by decide +kernel
theorem dX11_tellsSome_22 : decode cX11_tellsSome 22 = .ok (.iload 4, 2) := by decide +kernel
theorem dX11_tellsSome_24 : decode cX11_tellsSome 24 = .ok (.iload_n 3, 1) := by decide +kernel
theorem dX11_tellsSome_25 : decode cX11_tellsSome 25 = .ok (.bipush 32, 2) := by decide +kernel
theorem dX11_tellsSome_27 : decode cX11_tellsSome 27 = .ok (.iadd, 1) := by decide +kernel
theorem dX11_tellsSome_28 : decode cX11_tellsSome 28 = .ok (.if_icmp .ge 28, 3) := by decide +kernel
theorem dX11_tellsSome_31 : decode cX11_tellsSome 31 = .ok (.aload_n 0, 1) := by decide +kernel
theorem dX11_tellsSome_32 : decode cX11_tellsSome 32 = .ok (.getfield 53, 3) := by decide +kernel
theorem dX11_tellsSome_35 : decode cX11_tellsSome 35 = .ok (.sipush 1068, 3) := by decide +kernel
theorem dX11_tellsSome_38 : decode cX11_tellsSome 38 = .ok (.iload_n 1, 1) := by decide +kernel
theorem dX11_tellsSome_39 : decode cX11_tellsSome 39 = .ok (.imul, 1) := by decide +kernel
theorem dX11_tellsSome_40 : decode cX11_tellsSome 40 = .ok (.iload 4, 2) := by decide +kernel
theorem dX11_tellsSome_42 : decode cX11_tellsSome 42 = .ok (.iadd, 1) := by decide +kernel
theorem dX11_tellsSome_43 : decode cX11_tellsSome 43 = .ok (.iaload, 1) := by decide +kernel
theorem dX11_tellsSome_44 : decode cX11_tellsSome 44 = .ok (.iconst (-1), 1) := by decide +kernel
theorem dX11_tellsSome_45 : decode cX11_tellsSome 45 = .ok (.if_icmp .eq 5, 3) := by decide +kernel
theorem dX11_tellsSome_48 : decode cX11_tellsSome 48 = .ok (.iconst 1, 1) := by decide +kernel
theorem dX11_tellsSome_49 : decode cX11_tellsSome 49 = .ok (.ireturn, 1) := by decide +kernel
theorem dX11_tellsSome_50 : decode cX11_tellsSome 50 = .ok (.iinc 4 1, 3) := by decide +kernel
theorem dX11_tellsSome_53 : decode cX11_tellsSome 53 = .ok (.goto (-31), 3) := by decide +kernel
theorem dX11_tellsSome_56 : decode cX11_tellsSome 56 = .ok (.iconst 0, 1) := by decide +kernel
theorem dX11_tellsSome_57 : decode cX11_tellsSome 57 = .ok (.ireturn, 1) := by decide +kernel
theorem dX11_prune_0 : decode cX11_prune 0 = .ok (.iconst 0, 1) := by decide +kernel
theorem dX11_prune_1 : decode cX11_prune 1 = .ok (.istore_n 2, 1) := by decide +kernel
theorem dX11_prune_2 : decode cX11_prune 2 = .ok (.iconst 0, 1) := by decide +kernel
theorem dX11_prune_3 : decode cX11_prune 3 = .ok (.istore_n 3, 1) := by decide +kernel
theorem dX11_prune_4 : decode cX11_prune 4 = .ok (.iconst 0, 1) := by decide +kernel
theorem dX11_prune_5 : decode cX11_prune 5 = .ok (.istore 4, 2) := by decide +kernel
theorem dX11_prune_7 : decode cX11_prune 7 = .ok (.iload 4, 2) := by decide +kernel
theorem dX11_prune_9 : decode cX11_prune 9 = .ok (.bipush 34, 2) := by decide +kernel
theorem dX11_prune_11 : decode cX11_prune 11 = .ok (.if_icmp .ge 96, 3) := by decide +kernel
theorem dX11_prune_14 : decode cX11_prune 14 = .ok (.aload_n 0, 1) := by decide +kernel
theorem dX11_prune_15 : decode cX11_prune 15 = .ok (.getfield 56, 3) := by decide +kernel
theorem dX11_prune_18 : decode cX11_prune 18 = .ok (.bipush 34, 2) := by decide +kernel
theorem dX11_prune_20 : decode cX11_prune 20 = .ok (.iload_n 1, 1) := by decide +kernel
theorem dX11_prune_21 : decode cX11_prune 21 = .ok (.imul, 1) := by decide +kernel
theorem dX11_prune_22 : decode cX11_prune 22 = .ok (.iload 4, 2) := by decide +kernel
theorem dX11_prune_24 : decode cX11_prune 24 = .ok (.iadd, 1) := by decide +kernel
theorem dX11_prune_25 : decode cX11_prune 25 = .ok (.iaload, 1) := by decide +kernel
theorem dX11_prune_26 : decode cX11_prune 26 = .ok (.istore 5, 2) := by decide +kernel
theorem dX11_prune_28 : decode cX11_prune 28 = .ok (.iload 4, 2) := by decide +kernel
theorem dX11_prune_30 : decode cX11_prune 30 = .ok (.iconst 1, 1) := by decide +kernel
theorem dX11_prune_31 : decode cX11_prune 31 = .ok (.if_icmp .eq 70, 3) := by decide +kernel
theorem dX11_prune_34 : decode cX11_prune 34 = .ok (.iload 5, 2) := by decide +kernel
theorem dX11_prune_36 : decode cX11_prune 36 = .ok (.iconst (-1), 1) := by decide +kernel
theorem dX11_prune_37 : decode cX11_prune 37 = .ok (.if_icmp .ne 6, 3) := by decide +kernel
theorem dX11_prune_40 : decode cX11_prune 40 = .ok (.goto 61, 3) := by decide +kernel
theorem dX11_prune_43 : decode cX11_prune 43 = .ok (.aload_n 0, 1) := by decide +kernel
theorem dX11_prune_44 : decode cX11_prune 44 = .ok (.iload_n 1, 1) := by decide +kernel
theorem dX11_prune_45 : decode cX11_prune 45 = .ok (.iload 4, 2) := by decide +kernel
theorem dX11_prune_47 : decode cX11_prune 47 = .ok (.invokevirtual 440, 3) := by decide +kernel
theorem dX11_prune_50 : decode cX11_prune 50 = .ok (.ifCond .eq 22, 3) := by decide +kernel
theorem dX11_prune_53 : decode cX11_prune 53 = .ok (.iload_n 3, 1) := by decide +kernel
theorem dX11_prune_54 : decode cX11_prune 54 = .ok (.ifCond .ne 9, 3) := by decide +kernel
theorem dX11_prune_57 : decode cX11_prune 57 = .ok (.iload 4, 2) := by decide +kernel
theorem dX11_prune_59 : decode cX11_prune 59 = .ok (.iconst 1, 1) := by decide +kernel
theorem dX11_prune_60 : decode cX11_prune 60 = .ok (.if_icmp .le 7, 3) := by decide +kernel
theorem dX11_prune_63 : decode cX11_prune 63 = .ok (.iconst 1, 1) := by decide +kernel
theorem dX11_prune_64 : decode cX11_prune 64 = .ok (.goto 4, 3) := by decide +kernel
theorem dX11_prune_67 : decode cX11_prune 67 = .ok (.iconst 0, 1) := by decide +kernel
theorem dX11_prune_68 : decode cX11_prune 68 = .ok (.istore_n 3, 1) := by decide +kernel
theorem dX11_prune_69 : decode cX11_prune 69 = .ok (.goto 32, 3) := by decide +kernel
theorem dX11_prune_72 : decode cX11_prune 72 = .ok (.aload_n 0, 1) := by decide +kernel
theorem dX11_prune_73 : decode cX11_prune 73 = .ok (.iload_n 1, 1) := by decide +kernel
theorem dX11_prune_74 : decode cX11_prune 74 = .ok (.iload 4, 2) := by decide +kernel
theorem dX11_prune_76 : decode cX11_prune 76 = .ok (.invokevirtual 415, 3) := by decide +kernel
theorem dX11_prune_79 : decode cX11_prune 79 = .ok (.aload_n 0, 1) := by decide +kernel
theorem dX11_prune_80 : decode cX11_prune 80 = .ok (.getfield 56, 3) := by decide +kernel
theorem dX11_prune_83 : decode cX11_prune 83 = .ok (.bipush 34, 2) := by decide +kernel
theorem dX11_prune_85 : decode cX11_prune 85 = .ok (.iload_n 1, 1) := by decide +kernel
theorem dX11_prune_86 : decode cX11_prune 86 = .ok (.imul, 1) := by decide +kernel
theorem dX11_prune_87 : decode cX11_prune 87 = .ok (.iload 4, 2) := by decide +kernel
theorem dX11_prune_89 : decode cX11_prune 89 = .ok (.iadd, 1) := by decide +kernel
theorem dX11_prune_90 : decode cX11_prune 90 = .ok (.iconst (-1), 1) := by decide +kernel
theorem dX11_prune_91 : decode cX11_prune 91 = .ok (.iastore, 1) := by decide +kernel
theorem dX11_prune_92 : decode cX11_prune 92 = .ok (.aload_n 0, 1) := by decide +kernel
theorem dX11_prune_93 : decode cX11_prune 93 = .ok (.iload 5, 2) := by decide +kernel
theorem dX11_prune_95 : decode cX11_prune 95 = .ok (.invokevirtual 434, 3) := by decide +kernel
theorem dX11_prune_98 : decode cX11_prune 98 = .ok (.iinc 2 1, 3) := by decide +kernel
theorem dX11_prune_101 : decode cX11_prune 101 = .ok (.iinc 4 1, 3) := by decide +kernel
theorem dX11_prune_104 : decode cX11_prune 104 = .ok (.goto (-97), 3) := by decide +kernel
theorem dX11_prune_107 : decode cX11_prune 107 = .ok (.aload_n 0, 1) := by decide +kernel
theorem dX11_prune_108 : decode cX11_prune 108 = .ok (.getfield 56, 3) := by decide +kernel
theorem dX11_prune_111 : decode cX11_prune 111 = .ok (.bipush 34, 2) := by decide +kernel
theorem dX11_prune_113 : decode cX11_prune 113 = .ok (.iload_n 1, 1) := by decide +kernel
theorem dX11_prune_114 : decode cX11_prune 114 = .ok (.imul, 1) := by decide +kernel
theorem dX11_prune_115 : decode cX11_prune 115 = .ok (.iconst 1, 1) := by decide +kernel
theorem dX11_prune_116 : decode cX11_prune 116 = .ok (.iadd, 1) := by decide +kernel
theorem dX11_prune_117 : decode cX11_prune 117 = .ok (.iaload, 1) := by decide +kernel
theorem dX11_prune_118 : decode cX11_prune 118 = .ok (.istore 4, 2) := by decide +kernel
theorem dX11_prune_120 : decode cX11_prune 120 = .ok (.iload 4, 2) := by decide +kernel
theorem dX11_prune_122 : decode cX11_prune 122 = .ok (.iconst (-1), 1) := by decide +kernel
theorem dX11_prune_123 : decode cX11_prune 123 = .ok (.if_icmp .eq 7, 3) := by decide +kernel
theorem dX11_prune_126 : decode cX11_prune 126 = .ok (.iload_n 3, 1) := by decide +kernel
