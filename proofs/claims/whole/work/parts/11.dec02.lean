theorem dX10_writeTape_76 : decode cX10_writeTape 76 = .ok (.isub, 1) := by decide +kernel
theorem dX10_writeTape_77 : decode cX10_writeTape 77 = .ok (.if_icmp .le 6, 3) := by decide +kernel
theorem dX10_writeTape_80 : decode cX10_writeTape 80 = .ok (.bipush (-15), 2) := by decide +kernel
theorem dX10_writeTape_82 : decode cX10_writeTape 82 = .ok (.ireturn, 1) := by decide +kernel
theorem dX10_writeTape_83 : decode cX10_writeTape 83 = .ok (.aload_n 0, 1) := by decide +kernel
theorem dX10_writeTape_84 : decode cX10_writeTape 84 = .ok (.getfield 79, 3) := by decide +kernel
theorem dX10_writeTape_87 : decode cX10_writeTape 87 = .ok (.getfield 116, 3) := by decide +kernel
theorem dX10_writeTape_90 : decode cX10_writeTape 90 = .ok (.ifCond .ne 5, 3) := by decide +kernel
theorem dX10_writeTape_93 : decode cX10_writeTape 93 = .ok (.iconst 0, 1) := by decide +kernel
theorem dX10_writeTape_94 : decode cX10_writeTape 94 = .ok (.ireturn, 1) := by decide +kernel
theorem dX10_writeTape_95 : decode cX10_writeTape 95 = .ok (.iload_n 3, 1) := by decide +kernel
theorem dX10_writeTape_96 : decode cX10_writeTape 96 = .ok (.iconst 1, 1) := by decide +kernel
theorem dX10_writeTape_97 : decode cX10_writeTape 97 = .ok (.if_icmp .ne 32, 3) := by decide +kernel
theorem dX10_writeTape_100 : decode cX10_writeTape 100 = .ok (.aload_n 0, 1) := by decide +kernel
theorem dX10_writeTape_101 : decode cX10_writeTape 101 = .ok (.getfield 91, 3) := by decide +kernel
theorem dX10_writeTape_104 : decode cX10_writeTape 104 = .ok (.iload_n 1, 1) := by decide +kernel
theorem dX10_writeTape_105 : decode cX10_writeTape 105 = .ok (.iload_n 2, 1) := by decide +kernel
theorem dX10_writeTape_106 : decode cX10_writeTape 106 = .ok (.aload_n 0, 1) := by decide +kernel
theorem dX10_writeTape_107 : decode cX10_writeTape 107 = .ok (.getfield 79, 3) := by decide +kernel
theorem dX10_writeTape_110 : decode cX10_writeTape 110 = .ok (.getfield 116, 3) := by decide +kernel
theorem dX10_writeTape_113 : decode cX10_writeTape 113 = .ok (.invokevirtual 368, 3) := by decide +kernel
theorem dX10_writeTape_116 : decode cX10_writeTape 116 = .ok (.aload_n 0, 1) := by decide +kernel
theorem dX10_writeTape_117 : decode cX10_writeTape 117 = .ok (.getfield 67, 3) := by decide +kernel
theorem dX10_writeTape_120 : decode cX10_writeTape 120 = .ok (.invokevirtual 329, 3) := by decide +kernel
theorem dX10_writeTape_123 : decode cX10_writeTape 123 = .ok (.if_icmp .le 6, 3) := by decide +kernel
theorem dX10_writeTape_126 : decode cX10_writeTape 126 = .ok (.bipush (-16), 2) := by decide +kernel
theorem dX10_writeTape_128 : decode cX10_writeTape 128 = .ok (.ireturn, 1) := by decide +kernel
theorem dX10_writeTape_129 : decode cX10_writeTape 129 = .ok (.aload_n 0, 1) := by decide +kernel
theorem dX10_writeTape_130 : decode cX10_writeTape 130 = .ok (.getfield 91, 3) := by decide +kernel
theorem dX10_writeTape_133 : decode cX10_writeTape 133 = .ok (.iload_n 1, 1) := by decide +kernel
theorem dX10_writeTape_134 : decode cX10_writeTape 134 = .ok (.iload_n 2, 1) := by decide +kernel
theorem dX10_writeTape_135 : decode cX10_writeTape 135 = .ok (.aload_n 0, 1) := by decide +kernel
theorem dX10_writeTape_136 : decode cX10_writeTape 136 = .ok (.getfield 79, 3) := by decide +kernel
theorem dX10_writeTape_139 : decode cX10_writeTape 139 = .ok (.invokevirtual 372, 3) := by decide +kernel
theorem dX10_writeTape_142 : decode cX10_writeTape 142 = .ok (.aload_n 0, 1) := by decide +kernel
theorem dX10_writeTape_143 : decode cX10_writeTape 143 = .ok (.getfield 79, 3) := by decide +kernel
theorem dX10_writeTape_146 : decode cX10_writeTape 146 = .ok (.getfield 116, 3) := by decide +kernel
theorem dX10_writeTape_149 : decode cX10_writeTape 149 = .ok (.ireturn, 1) := by decide +kernel
theorem dX10_put_0 : decode cX10_put 0 = .ok (.aload_n 0, 1) := by decide +kernel
theorem dX10_put_1 : decode cX10_put 1 = .ok (.getfield 63, 3) := by decide +kernel
theorem dX10_put_4 : decode cX10_put 4 = .ok (.bipush 40, 2) := by decide +kernel
theorem dX10_put_6 : decode cX10_put 6 = .ok (.invokevirtual 126, 3) := by decide +kernel
theorem dX10_put_9 : decode cX10_put 9 = .ok (.ifCond .eq 12, 3) := by decide +kernel
theorem dX10_put_12 : decode cX10_put 12 = .ok (.aload_n 0, 1) := by decide +kernel
theorem dX10_put_13 : decode cX10_put 13 = .ok (.iload_n 1, 1) := by decide +kernel
theorem dX10_put_14 : decode cX10_put 14 = .ok (.iload_n 2, 1) := by decide +kernel
theorem dX10_put_15 : decode cX10_put 15 = .ok (.invokevirtual 169, 3) := by decide +kernel
theorem dX10_put_18 : decode cX10_put 18 = .ok (.goto 5, 3) := by decide +kernel
theorem dX10_put_21 : decode cX10_put 21 = .ok (.bipush (-99), 2) := by decide +kernel
theorem dX10_put_23 : decode cX10_put 23 = .ok (.istore_n 3, 1) := by decide +kernel
theorem dX10_put_24 : decode cX10_put 24 = .ok (.aload_n 0, 1) := by decide +kernel
theorem dX10_put_25 : decode cX10_put 25 = .ok (.getfield 79, 3) := by decide +kernel
theorem dX10_put_28 : decode cX10_put 28 = .ok (.iconst 0, 1) := by decide +kernel
theorem dX10_put_29 : decode cX10_put 29 = .ok (.putfield 116, 3) := by decide +kernel
theorem dX10_put_32 : decode cX10_put 32 = .ok (.iload_n 3, 1) := by decide +kernel
theorem dX10_put_33 : decode cX10_put 33 = .ok (.ireturn, 1) := by decide +kernel
theorem dX6_forget_0 : decode cX6_forget 0 = .ok (.iload_n 1, 1) := by decide +kernel
theorem dX6_forget_1 : decode cX6_forget 1 = .ok (.ifCond .lt 38, 3) := by decide +kernel
theorem dX6_forget_4 : decode cX6_forget 4 = .ok (.iload_n 1, 1) := by decide +kernel
theorem dX6_forget_5 : decode cX6_forget 5 = .ok (.aload_n 0, 1) := by decide +kernel
theorem dX6_forget_6 : decode cX6_forget 6 = .ok (.getfield 29, 3) := by decide +kernel
theorem dX6_forget_9 : decode cX6_forget 9 = .ok (.arraylength, 1) := by decide +kernel
theorem dX6_forget_10 : decode cX6_forget 10 = .ok (.if_icmp .ge 29, 3) := by decide +kernel
theorem dX6_forget_13 : decode cX6_forget 13 = .ok (.aload_n 0, 1) := by decide +kernel
theorem dX6_forget_14 : decode cX6_forget 14 = .ok (.getfield 29, 3) := by decide +kernel
theorem dX6_forget_17 : decode cX6_forget 17 = .ok (.iload_n 1, 1) := by decide +kernel
theorem dX6_forget_18 : decode cX6_forget 18 = .ok (.baload, 1) := by decide +kernel
theorem dX6_forget_19 : decode cX6_forget 19 = .ok (.ifCond .eq 20, 3) := by decide +kernel
theorem dX6_forget_22 : decode cX6_forget 22 = .ok (.aload_n 0, 1) := by decide +kernel
theorem dX6_forget_23 : decode cX6_forget 23 = .ok (.getfield 29, 3) := by decide +kernel
theorem dX6_forget_26 : decode cX6_forget 26 = .ok (.iload_n 1, 1) := by decide +kernel
theorem dX6_forget_27 : decode cX6_forget 27 = .ok (.iconst 0, 1) := by decide +kernel
theorem dX6_forget_28 : decode cX6_forget 28 = .ok (.bastore, 1) := by decide +kernel
theorem dX6_forget_29 : decode cX6_forget 29 = .ok (.aload_n 0, 1) := by decide +kernel
theorem dX6_forget_30 : decode cX6_forget 30 = .ok (.dup, 1) := by decide +kernel
theorem dX6_forget_31 : decode cX6_forget 31 = .ok (.getfield 55, 3) := by decide +kernel
theorem dX6_forget_34 : decode cX6_forget 34 = .ok (.iconst 1, 1) := by decide +kernel
theorem dX6_forget_35 : decode cX6_forget 35 = .ok (.isub, 1) := by decide +kernel
theorem dX6_forget_36 : decode cX6_forget 36 = .ok (.putfield 55, 3) := by decide +kernel
theorem dX6_forget_39 : decode cX6_forget 39 = .ok (.return_, 1) := by decide +kernel
theorem dX5_giveBack_0 : decode cX5_giveBack 0 = .ok (.iload_n 1, 1) := by decide +kernel
theorem dX5_giveBack_1 : decode cX5_giveBack 1 = .ok (.sipush 512, 3) := by decide +kernel
theorem dX5_giveBack_4 : decode cX5_giveBack 4 = .ok (.irem, 1) := by decide +kernel
theorem dX5_giveBack_5 : decode cX5_giveBack 5 = .ok (.bipush 64, 2) := by decide +kernel
theorem dX5_giveBack_7 : decode cX5_giveBack 7 = .ok (.idiv, 1) := by decide +kernel
theorem dX5_giveBack_8 : decode cX5_giveBack 8 = .ok (.istore_n 2, 1) := by decide +kernel
theorem dX5_giveBack_9 : decode cX5_giveBack 9 = .ok (.aload_n 0, 1) := by decide +kernel
theorem dX5_giveBack_10 : decode cX5_giveBack 10 = .ok (.getfield 9, 3) := by decide +kernel
theorem dX5_giveBack_13 : decode cX5_giveBack 13 = .ok (.bipush 80, 2) := by decide +kernel
theorem dX5_giveBack_15 : decode cX5_giveBack 15 = .ok (.iload_n 1, 1) := by decide +kernel
theorem dX5_giveBack_16 : decode cX5_giveBack 16 = .ok (.sipush 512, 3) := by decide +kernel
theorem dX5_giveBack_19 : decode cX5_giveBack 19 = .ok (.idiv, 1) := by decide +kernel
theorem dX5_giveBack_20 : decode cX5_giveBack 20 = .ok (.iadd, 1) := by decide +kernel
theorem dX5_giveBack_21 : decode cX5_giveBack 21 = .ok (.iload_n 2, 1) := by decide +kernel
theorem dX5_giveBack_22 : decode cX5_giveBack 22 = .ok (.invokevirtual 35, 3) := by decide +kernel
theorem dX5_giveBack_25 : decode cX5_giveBack 25 = .ok (.lstore_n 3, 1) := by decide +kernel
theorem dX5_giveBack_26 : decode cX5_giveBack 26 = .ok (.aload_n 0, 1) := by decide +kernel
theorem dX5_giveBack_27 : decode cX5_giveBack 27 = .ok (.getfield 9, 3) := by decide +kernel
theorem dX5_giveBack_30 : decode cX5_giveBack 30 = .ok (.bipush 80, 2) := by decide +kernel
theorem dX5_giveBack_32 : decode cX5_giveBack 32 = .ok (.iload_n 1, 1) := by decide +kernel
theorem dX5_giveBack_33 : decode cX5_giveBack 33 = .ok (.sipush 512, 3) := by decide +kernel
theorem dX5_giveBack_36 : decode cX5_giveBack 36 = .ok (.idiv, 1) := by decide +kernel
theorem dX5_giveBack_37 : decode cX5_giveBack 37 = .ok (.iadd, 1) := by decide +kernel
theorem dX5_giveBack_38 : decode cX5_giveBack 38 = .ok (.iload_n 2, 1) := by decide +kernel
theorem dX5_giveBack_39 : decode cX5_giveBack 39 = .ok (.lload_n 3, 1) := by decide +kernel
theorem dX5_giveBack_40 : decode cX5_giveBack 40 = .ok (.lconst 1, 1) := by decide +kernel
theorem dX5_giveBack_41 : decode cX5_giveBack 41 = .ok (.iload_n 1, 1) := by decide +kernel
theorem dX5_giveBack_42 : decode cX5_giveBack 42 = .ok (.bipush 64, 2) := by decide +kernel
theorem dX5_giveBack_44 : decode cX5_giveBack 44 = .ok (.irem, 1) := by decide +kernel
theorem dX5_giveBack_45 : decode cX5_giveBack 45 = .ok (.lshl, 1) := by decide +kernel
theorem dX5_giveBack_46 : decode cX5_giveBack 46 = .ok (.ldc2_w 54, 3) := by decide +kernel
theorem dX5_giveBack_49 : decode cX5_giveBack 49 = .ok (.lxor, 1) := by decide +kernel
theorem dX5_giveBack_50 : decode cX5_giveBack 50 = .ok (.land, 1) := by decide +kernel
theorem dX5_giveBack_51 : decode cX5_giveBack 51 = .ok (.invokevirtual 56, 3) := by decide +kernel
theorem dX5_giveBack_54 : decode cX5_giveBack 54 = .ok (.aload_n 0, 1) := by decide +kernel
theorem dX5_giveBack_55 : decode cX5_giveBack 55 = .ok (.getfield 9, 3) := by decide +kernel
theorem dX5_giveBack_58 : decode cX5_giveBack 58 = .ok (.iload_n 1, 1) := by decide +kernel
theorem dX5_giveBack_59 : decode cX5_giveBack 59 = .ok (.invokevirtual 64, 3) := by decide +kernel
theorem dX5_giveBack_62 : decode cX5_giveBack 62 = .ok (.return_, 1) := by decide +kernel
theorem dX0_giveBackTold_0 : decode cX0_giveBackTold 0 = .ok (.iconst 0, 1) := by decide +kernel
theorem dX0_giveBackTold_1 : decode cX0_giveBackTold 1 = .ok (.istore 4, 2) := by decide +kernel
theorem dX0_giveBackTold_3 : decode cX0_giveBackTold 3 = .ok (.iload_n 2, 1) := by decide +kernel
theorem dX0_giveBackTold_4 : decode cX0_giveBackTold 4 = .ok (.istore 5, 2) := by decide +kernel
theorem dX0_giveBackTold_6 : decode cX0_giveBackTold 6 = .ok (.iload 5, 2) := by decide +kernel
theorem dX0_giveBackTold_8 : decode cX0_giveBackTold 8 = .ok (.iload_n 3, 1) := by decide +kernel
theorem dX0_giveBackTold_9 : decode cX0_giveBackTold 9 = .ok (.if_icmp .ge 49, 3) := by decide +kernel
theorem dX0_giveBackTold_12 : decode cX0_giveBackTold 12 = .ok (.aload_n 0, 1) := by decide +kernel
theorem dX0_giveBackTold_13 : decode cX0_giveBackTold 13 = .ok (.getfield 11, 3) := by decide +kernel
theorem dX0_giveBackTold_16 : decode cX0_giveBackTold 16 = .ok (.iload_n 1, 1) := by decide +kernel
theorem dX0_giveBackTold_17 : decode cX0_giveBackTold 17 = .ok (.iload 5, 2) := by decide +kernel
theorem dX0_giveBackTold_19 : decode cX0_giveBackTold 19 = .ok (.invokevirtual 54, 3) := by decide +kernel
theorem dX0_giveBackTold_22 : decode cX0_giveBackTold 22 = .ok (.istore 6, 2) := by decide +kernel
theorem dX0_giveBackTold_24 : decode cX0_giveBackTold 24 = .ok (.iload 6, 2) := by decide +kernel
theorem dX0_giveBackTold_26 : decode cX0_giveBackTold 26 = .ok (.ifCond .eq 26, 3) := by decide +kernel
theorem dX0_giveBackTold_29 : decode cX0_giveBackTold 29 = .ok (.aload_n 0, 1) := by decide +kernel
theorem dX0_giveBackTold_30 : decode cX0_giveBackTold 30 = .ok (.getfield 15, 3) := by decide +kernel
theorem dX0_giveBackTold_33 : decode cX0_giveBackTold 33 = .ok (.iload 6, 2) := by decide +kernel
theorem dX0_giveBackTold_35 : decode cX0_giveBackTold 35 = .ok (.invokevirtual 112, 3) := by decide +kernel
theorem dX0_giveBackTold_38 : decode cX0_giveBackTold 38 = .ok (.aload_n 0, 1) := by decide +kernel
theorem dX0_giveBackTold_39 : decode cX0_giveBackTold 39 = .ok (.getfield 11, 3) := by decide +kernel
theorem dX0_giveBackTold_42 : decode cX0_giveBackTold 42 = .ok (.iload_n 1, 1) := by decide +kernel
theorem dX0_giveBackTold_43 : decode cX0_giveBackTold 43 = .ok (.iload 5, 2) := by decide +kernel
theorem dX0_giveBackTold_45 : decode cX0_giveBackTold 45 = .ok (.iconst 0, 1) := by decide +kernel
theorem dX0_giveBackTold_46 : decode cX0_giveBackTold 46 = .ok (.invokevirtual 88, 3) := by decide +kernel
theorem dX0_giveBackTold_49 : decode cX0_giveBackTold 49 = .ok (.iinc 4 1, 3) := by decide +kernel
theorem dX0_giveBackTold_52 : decode cX0_giveBackTold 52 = .ok (.iinc 5 1, 3) := by decide +kernel
theorem dX0_giveBackTold_55 : decode cX0_giveBackTold 55 = .ok (.goto (-49), 3) := by decide +kernel
theorem dX0_giveBackTold_58 : decode cX0_giveBackTold 58 = .ok (.iload 4, 2) := by decide +kernel
theorem dX0_giveBackTold_60 : decode cX0_giveBackTold 60 = .ok (.ireturn, 1) := by decide +kernel
theorem dX0_giveBackEmpty_0 : decode cX0_giveBackEmpty 0 = .ok (.aload_n 0, 1) := by decide +kernel
theorem dX0_giveBackEmpty_1 : decode cX0_giveBackEmpty 1 = .ok (.getfield 11, 3) := by decide +kernel
theorem dX0_giveBackEmpty_4 : decode cX0_giveBackEmpty 4 = .ok (.iload_n 1, 1) := by decide +kernel
theorem dX0_giveBackEmpty_5 : decode cX0_giveBackEmpty 5 = .ok (.iload_n 2, 1) := by decide +kernel
theorem dX0_giveBackEmpty_6 : decode cX0_giveBackEmpty 6 = .ok (.invokevirtual 54, 3) := by decide +kernel
theorem dX0_giveBackEmpty_9 : decode cX0_giveBackEmpty 9 = .ok (.istore_n 3, 1) := by decide +kernel
theorem dX0_giveBackEmpty_10 : decode cX0_giveBackEmpty 10 = .ok (.iconst 0, 1) := by decide +kernel
theorem dX0_giveBackEmpty_11 : decode cX0_giveBackEmpty 11 = .ok (.istore 4, 2) := by decide +kernel
theorem dX0_giveBackEmpty_13 : decode cX0_giveBackEmpty 13 = .ok (.iload 4, 2) := by decide +kernel
theorem dX0_giveBackEmpty_15 : decode cX0_giveBackEmpty 15 = .ok (.bipush 8, 2) := by decide +kernel
theorem dX0_giveBackEmpty_17 : decode cX0_giveBackEmpty 17 = .ok (.if_icmp .ge 26, 3) := by decide +kernel
theorem dX0_giveBackEmpty_20 : decode cX0_giveBackEmpty 20 = .ok (.aload_n 0, 1) := by decide +kernel
theorem dX0_giveBackEmpty_21 : decode cX0_giveBackEmpty 21 = .ok (.getfield 11, 3) := by decide +kernel
theorem dX0_giveBackEmpty_24 : decode cX0_giveBackEmpty 24 = .ok (.iload_n 3, 1) := by decide +kernel
theorem dX0_giveBackEmpty_25 : decode cX0_giveBackEmpty 25 = .ok (.iload 4, 2) := by decide +kernel
theorem dX0_giveBackEmpty_27 : decode cX0_giveBackEmpty 27 = .ok (.invokevirtual 116, 3) := by decide +kernel
theorem dX0_giveBackEmpty_30 : decode cX0_giveBackEmpty 30 = .ok (.lconst 0, 1) := by decide +kernel
theorem dX0_giveBackEmpty_31 : decode cX0_giveBackEmpty 31 = .ok (.lcmp, 1) := by decide +kernel
theorem dX0_giveBackEmpty_32 : decode cX0_giveBackEmpty 32 = .ok (.ifCond .eq 5, 3) := by decide +kernel
theorem dX0_giveBackEmpty_35 : decode cX0_giveBackEmpty 35 = .ok (.iconst 0, 1) := by decide +kernel
theorem dX0_giveBackEmpty_36 : decode cX0_giveBackEmpty 36 = .ok (.ireturn, 1) := by decide +kernel
theorem dX0_giveBackEmpty_37 : decode cX0_giveBackEmpty 37 = .ok (.iinc 4 1, 3) := by decide +kernel
theorem dX0_giveBackEmpty_40 : decode cX0_giveBackEmpty 40 = .ok (.goto (-27), 3) := by decide +kernel
theorem dX0_giveBackEmpty_43 : decode cX0_giveBackEmpty 43 = .ok (.aload_n 0, 1) := by decide +kernel
theorem dX0_giveBackEmpty_44 : decode cX0_giveBackEmpty 44 = .ok (.getfield 15, 3) := by decide +kernel
theorem dX0_giveBackEmpty_47 : decode cX0_giveBackEmpty 47 = .ok (.iload_n 3, 1) := by decide +kernel
theorem dX0_giveBackEmpty_48 : decode cX0_giveBackEmpty 48 = .ok (.invokevirtual 112, 3) := by decide +kernel
theorem dX0_giveBackEmpty_51 : decode cX0_giveBackEmpty 51 = .ok (.aload_n 0, 1) := by decide +kernel
theorem dX0_giveBackEmpty_52 : decode cX0_giveBackEmpty 52 = .ok (.getfield 11, 3) := by decide +kernel
theorem dX0_giveBackEmpty_55 : decode cX0_giveBackEmpty 55 = .ok (.iload_n 1, 1) := by decide +kernel
theorem dX0_giveBackEmpty_56 : decode cX0_giveBackEmpty 56 = .ok (.iload_n 2, 1) := by decide +kernel
theorem dX0_giveBackEmpty_57 : decode cX0_giveBackEmpty 57 = .ok (.iconst 0, 1) := by decide +kernel
theorem dX0_giveBackEmpty_58 : decode cX0_giveBackEmpty 58 = .ok (.invokevirtual 88, 3) := by decide +kernel
theorem dX0_giveBackEmpty_61 : decode cX0_giveBackEmpty 61 = .ok (.iconst 1, 1) := by decide +kernel
theorem dX0_giveBackEmpty_62 : decode cX0_giveBackEmpty 62 = .ok (.ireturn, 1) := by decide +kernel
theorem dX0_giveBackIndex_0 : decode cX0_giveBackIndex 0 = .ok (.aload_n 0, 1) := by decide +kernel
theorem dX0_giveBackIndex_1 : decode cX0_giveBackIndex 1 = .ok (.getfield 11, 3) := by decide +kernel
theorem dX0_giveBackIndex_4 : decode cX0_giveBackIndex 4 = .ok (.iload_n 1, 1) := by decide +kernel
theorem dX0_giveBackIndex_5 : decode cX0_giveBackIndex 5 = .ok (.iload_n 2, 1) := by decide +kernel
theorem dX0_giveBackIndex_6 : decode cX0_giveBackIndex 6 = .ok (.invokevirtual 54, 3) := by decide +kernel
theorem dX0_giveBackIndex_9 : decode cX0_giveBackIndex 9 = .ok (.istore 4, 2) := by decide +kernel
theorem dX0_giveBackIndex_11 : decode cX0_giveBackIndex 11 = .ok (.iload 4, 2) := by decide +kernel
theorem dX0_giveBackIndex_13 : decode cX0_giveBackIndex 13 = .ok (.ifCond .eq 9, 3) := by decide +kernel
theorem dX0_giveBackIndex_16 : decode cX0_giveBackIndex 16 = .ok (.iload_n 3, 1) := by decide +kernel
theorem dX0_giveBackIndex_17 : decode cX0_giveBackIndex 17 = .ok (.bipush 32, 2) := by decide +kernel
theorem dX0_giveBackIndex_19 : decode cX0_giveBackIndex 19 = .ok (.if_icmp .lt 5, 3) := by decide +kernel
theorem dX0_giveBackIndex_22 : decode cX0_giveBackIndex 22 = .ok (.iconst 0, 1) := by decide +kernel
theorem dX0_giveBackIndex_23 : decode cX0_giveBackIndex 23 = .ok (.ireturn, 1) := by decide +kernel
theorem dX0_giveBackIndex_24 : decode cX0_giveBackIndex 24 = .ok (.aload_n 0, 1) := by decide +kernel
theorem dX0_giveBackIndex_25 : decode cX0_giveBackIndex 25 = .ok (.iload 4, 2) := by decide +kernel
theorem dX0_giveBackIndex_27 : decode cX0_giveBackIndex 27 = .ok (.iload_n 3, 1) := by decide +kernel
theorem dX0_giveBackIndex_28 : decode cX0_giveBackIndex 28 = .ok (.iconst 0, 1) := by decide +kernel
theorem dX0_giveBackIndex_29 : decode cX0_giveBackIndex 29 = .ok (.invokestatic 109, 3) := by decide +kernel
theorem dX0_giveBackIndex_32 : decode cX0_giveBackIndex 32 = .ok (.bipush 32, 2) := by decide +kernel
theorem dX0_giveBackIndex_34 : decode cX0_giveBackIndex 34 = .ok (.invokevirtual 99, 3) := by decide +kernel
theorem dX0_giveBackIndex_37 : decode cX0_giveBackIndex 37 = .ok (.istore 5, 2) := by decide +kernel
theorem dX0_giveBackIndex_39 : decode cX0_giveBackIndex 39 = .ok (.iload 5, 2) := by decide +kernel
theorem dX0_giveBackIndex_41 : decode cX0_giveBackIndex 41 = .ok (.aload_n 0, 1) := by decide +kernel
theorem dX0_giveBackIndex_42 : decode cX0_giveBackIndex 42 = .ok (.iload_n 1, 1) := by decide +kernel
theorem dX0_giveBackIndex_43 : decode cX0_giveBackIndex 43 = .ok (.iload_n 2, 1) := by decide +kernel
theorem dX0_giveBackIndex_44 : decode cX0_giveBackIndex 44 = .ok (.invokevirtual 106, 3) := by decide +kernel
theorem dX0_giveBackIndex_47 : decode cX0_giveBackIndex 47 = .ok (.iadd, 1) := by decide +kernel
theorem dX0_giveBackIndex_48 : decode cX0_giveBackIndex 48 = .ok (.ireturn, 1) := by decide +kernel
theorem dX0_giveBackFrom_0 : decode cX0_giveBackFrom 0 = .ok (.aload_n 0, 1) := by decide +kernel
theorem dX0_giveBackFrom_1 : decode cX0_giveBackFrom 1 = .ok (.getfield 19, 3) := by decide +kernel
theorem dX0_giveBackFrom_4 : decode cX0_giveBackFrom 4 = .ok (.iload_n 1, 1) := by decide +kernel
theorem dX0_giveBackFrom_5 : decode cX0_giveBackFrom 5 = .ok (.invokevirtual 36, 3) := by decide +kernel
theorem dX0_giveBackFrom_8 : decode cX0_giveBackFrom 8 = .ok (.istore_n 3, 1) := by decide +kernel
theorem dX0_giveBackFrom_9 : decode cX0_giveBackFrom 9 = .ok (.aload_n 0, 1) := by decide +kernel
theorem dX0_giveBackFrom_10 : decode cX0_giveBackFrom 10 = .ok (.iload_n 3, 1) := by decide +kernel
theorem dX0_giveBackFrom_11 : decode cX0_giveBackFrom 11 = .ok (.iconst 4, 1) := by decide +kernel
theorem dX0_giveBackFrom_12 : decode cX0_giveBackFrom 12 = .ok (.iload_n 2, 1) := by decide +kernel
theorem dX0_giveBackFrom_13 : decode cX0_giveBackFrom 13 = .ok (.bipush 12, 2) := by decide +kernel
theorem dX0_giveBackFrom_15 : decode cX0_giveBackFrom 15 = .ok (.invokestatic 94, 3) := by decide +kernel
theorem dX0_giveBackFrom_18 : decode cX0_giveBackFrom 18 = .ok (.iadd, 1) := by decide +kernel
theorem dX0_giveBackFrom_19 : decode cX0_giveBackFrom 19 = .ok (.bipush 16, 2) := by decide +kernel
theorem dX0_giveBackFrom_21 : decode cX0_giveBackFrom 21 = .ok (.invokevirtual 99, 3) := by decide +kernel
theorem dX0_giveBackFrom_24 : decode cX0_giveBackFrom 24 = .ok (.istore 4, 2) := by decide +kernel
theorem dX0_giveBackFrom_26 : decode cX0_giveBackFrom 26 = .ok (.iload 4, 2) := by decide +kernel
theorem dX0_giveBackFrom_28 : decode cX0_giveBackFrom 28 = .ok (.aload_n 0, 1) := by decide +kernel
theorem dX0_giveBackFrom_29 : decode cX0_giveBackFrom 29 = .ok (.iload_n 3, 1) := by decide +kernel
theorem dX0_giveBackFrom_30 : decode cX0_giveBackFrom 30 = .ok (.bipush 16, 2) := by decide +kernel
theorem dX0_giveBackFrom_32 : decode cX0_giveBackFrom 32 = .ok (.iload_n 2, 1) := by decide +kernel
theorem dX0_giveBackFrom_33 : decode cX0_giveBackFrom 33 = .ok (.bipush 12, 2) := by decide +kernel
theorem dX0_giveBackFrom_35 : decode cX0_giveBackFrom 35 = .ok (.isub, 1) := by decide +kernel
theorem dX0_giveBackFrom_36 : decode cX0_giveBackFrom 36 = .ok (.invokevirtual 103, 3) := by decide +kernel
theorem dX0_giveBackFrom_39 : decode cX0_giveBackFrom 39 = .ok (.iadd, 1) := by decide +kernel
theorem dX0_giveBackFrom_40 : decode cX0_giveBackFrom 40 = .ok (.istore 4, 2) := by decide +kernel
theorem dX0_giveBackFrom_42 : decode cX0_giveBackFrom 42 = .ok (.aload_n 0, 1) := by decide +kernel
theorem dX0_giveBackFrom_43 : decode cX0_giveBackFrom 43 = .ok (.getfield 11, 3) := by decide +kernel
theorem dX0_giveBackFrom_46 : decode cX0_giveBackFrom 46 = .ok (.iload_n 3, 1) := by decide +kernel
theorem dX0_giveBackFrom_47 : decode cX0_giveBackFrom 47 = .ok (.bipush 17, 2) := by decide +kernel
theorem dX0_giveBackFrom_49 : decode cX0_giveBackFrom 49 = .ok (.invokevirtual 54, 3) := by decide +kernel
theorem dX0_giveBackFrom_52 : decode cX0_giveBackFrom 52 = .ok (.istore 5, 2) := by decide +kernel
theorem dX0_giveBackFrom_54 : decode cX0_giveBackFrom 54 = .ok (.iload 5, 2) := by decide +kernel
theorem dX0_giveBackFrom_56 : decode cX0_giveBackFrom 56 = .ok (.ifCond .ne 6, 3) := by decide +kernel
theorem dX0_giveBackFrom_59 : decode cX0_giveBackFrom 59 = .ok (.iload 4, 2) := by decide +kernel
theorem dX0_giveBackFrom_61 : decode cX0_giveBackFrom 61 = .ok (.ireturn, 1) := by decide +kernel
theorem dX0_giveBackFrom_62 : decode cX0_giveBackFrom 62 = .ok (.iconst 0, 1) := by decide +kernel
theorem dX0_giveBackFrom_63 : decode cX0_giveBackFrom 63 = .ok (.istore 6, 2) := by decide +kernel
theorem dX0_giveBackFrom_65 : decode cX0_giveBackFrom 65 = .ok (.iload 6, 2) := by decide +kernel
theorem dX0_giveBackFrom_67 : decode cX0_giveBackFrom 67 = .ok (.bipush 32, 2) := by decide +kernel
theorem dX0_giveBackFrom_69 : decode cX0_giveBackFrom 69 = .ok (.if_icmp .ge 32, 3) := by decide +kernel
theorem dX0_giveBackFrom_72 : decode cX0_giveBackFrom 72 = .ok (.iload 4, 2) := by decide +kernel
theorem dX0_giveBackFrom_74 : decode cX0_giveBackFrom 74 = .ok (.aload_n 0, 1) := by decide +kernel
theorem dX0_giveBackFrom_75 : decode cX0_giveBackFrom 75 = .ok (.iload 5, 2) := by decide +kernel
theorem dX0_giveBackFrom_77 : decode cX0_giveBackFrom 77 = .ok (.iload 6, 2) := by decide +kernel
theorem dX0_giveBackFrom_79 : decode cX0_giveBackFrom 79 = .ok (.iload_n 2, 1) := by decide +kernel
theorem dX0_giveBackFrom_80 : decode cX0_giveBackFrom 80 = .ok (.bipush 44, 2) := by decide +kernel
theorem dX0_giveBackFrom_82 : decode cX0_giveBackFrom 82 = .ok (.isub, 1) := by decide +kernel
theorem dX0_giveBackFrom_83 : decode cX0_giveBackFrom 83 = .ok (.bipush 32, 2) := by decide +kernel
theorem dX0_giveBackFrom_85 : decode cX0_giveBackFrom 85 = .ok (.iload 6, 2) := by decide +kernel
theorem dX0_giveBackFrom_87 : decode cX0_giveBackFrom 87 = .ok (.imul, 1) := by decide +kernel
theorem dX0_giveBackFrom_88 : decode cX0_giveBackFrom 88 = .ok (.isub, 1) := by decide +kernel
theorem dX0_giveBackFrom_89 : decode cX0_giveBackFrom 89 = .ok (.invokevirtual 103, 3) := by decide +kernel
theorem dX0_giveBackFrom_92 : decode cX0_giveBackFrom 92 = .ok (.iadd, 1) := by decide +kernel
theorem dX0_giveBackFrom_93 : decode cX0_giveBackFrom 93 = .ok (.istore 4, 2) := by decide +kernel
theorem dX0_giveBackFrom_95 : decode cX0_giveBackFrom 95 = .ok (.iinc 6 1, 3) := by decide +kernel
theorem dX0_giveBackFrom_98 : decode cX0_giveBackFrom 98 = .ok (.goto (-33), 3) := by decide +kernel
theorem dX0_giveBackFrom_101 : decode cX0_giveBackFrom 101 = .ok (.iload 4, 2) := by decide +kernel
theorem dX0_giveBackFrom_103 : decode cX0_giveBackFrom 103 = .ok (.aload_n 0, 1) := by decide +kernel
theorem dX0_giveBackFrom_104 : decode cX0_giveBackFrom 104 = .ok (.iload_n 3, 1) := by decide +kernel
theorem dX0_giveBackFrom_105 : decode cX0_giveBackFrom 105 = .ok (.bipush 17, 2) := by decide +kernel
theorem dX0_giveBackFrom_107 : decode cX0_giveBackFrom 107 = .ok (.invokevirtual 106, 3) := by decide +kernel
theorem dX0_giveBackFrom_110 : decode cX0_giveBackFrom 110 = .ok (.iadd, 1) := by decide +kernel
theorem dX0_giveBackFrom_111 : decode cX0_giveBackFrom 111 = .ok (.ireturn, 1) := by decide +kernel
theorem dX0_shorten_0 : decode cX0_shorten 0 = .ok (.iload_n 2, 1) := by decide +kernel
theorem dX0_shorten_1 : decode cX0_shorten 1 = .ok (.bipush 64, 2) := by decide +kernel
theorem dX0_shorten_3 : decode cX0_shorten 3 = .ok (.irem, 1) := by decide +kernel
theorem dX0_shorten_4 : decode cX0_shorten 4 = .ok (.istore_n 3, 1) := by decide +kernel
theorem dX0_shorten_5 : decode cX0_shorten 5 = .ok (.iload_n 3, 1) := by decide +kernel
theorem dX0_shorten_6 : decode cX0_shorten 6 = .ok (.ifCond .ne 7, 3) := by decide +kernel
theorem dX0_shorten_9 : decode cX0_shorten 9 = .ok (.iconst 0, 1) := by decide +kernel
theorem dX0_shorten_10 : decode cX0_shorten 10 = .ok (.goto 12, 3) := by decide +kernel
theorem dX0_shorten_13 : decode cX0_shorten 13 = .ok (.aload_n 0, 1) := by decide +kernel
theorem dX0_shorten_14 : decode cX0_shorten 14 = .ok (.iload_n 1, 1) := by decide +kernel
theorem dX0_shorten_15 : decode cX0_shorten 15 = .ok (.iload_n 2, 1) := by decide +kernel
theorem dX0_shorten_16 : decode cX0_shorten 16 = .ok (.bipush 64, 2) := by decide +kernel
theorem dX0_shorten_18 : decode cX0_shorten 18 = .ok (.idiv, 1) := by decide +kernel
theorem dX0_shorten_19 : decode cX0_shorten 19 = .ok (.invokevirtual 48, 3) := by decide +kernel
theorem dX0_shorten_22 : decode cX0_shorten 22 = .ok (.istore 4, 2) := by decide +kernel
theorem dX0_shorten_24 : decode cX0_shorten 24 = .ok (.iload_n 3, 1) := by decide +kernel
theorem dX0_shorten_25 : decode cX0_shorten 25 = .ok (.istore 5, 2) := by decide +kernel
theorem dX0_shorten_27 : decode cX0_shorten 27 = .ok (.iload 5, 2) := by decide +kernel
theorem dX0_shorten_29 : decode cX0_shorten 29 = .ok (.bipush 64, 2) := by decide +kernel
theorem dX0_shorten_31 : decode cX0_shorten 31 = .ok (.if_icmp .ge 26, 3) := by decide +kernel
theorem dX0_shorten_34 : decode cX0_shorten 34 = .ok (.iload 4, 2) := by decide +kernel
theorem dX0_shorten_36 : decode cX0_shorten 36 = .ok (.ifCond .eq 21, 3) := by decide +kernel
theorem dX0_shorten_39 : decode cX0_shorten 39 = .ok (.aload_n 0, 1) := by decide +kernel
theorem dX0_shorten_40 : decode cX0_shorten 40 = .ok (.getfield 11, 3) := by decide +kernel
theorem dX0_shorten_43 : decode cX0_shorten 43 = .ok (.iload 4, 2) := by decide +kernel
theorem dX0_shorten_45 : decode cX0_shorten 45 = .ok (.iload 5, 2) := by decide +kernel
theorem dX0_shorten_47 : decode cX0_shorten 47 = .ok (.iconst 0, 1) := by decide +kernel
theorem dX0_shorten_48 : decode cX0_shorten 48 = .ok (.invokevirtual 71, 3) := by decide +kernel
theorem dX0_shorten_51 : decode cX0_shorten 51 = .ok (.iinc 5 1, 3) := by decide +kernel
theorem dX0_shorten_54 : decode cX0_shorten 54 = .ok (.goto (-27), 3) := by decide +kernel
theorem dX0_shorten_57 : decode cX0_shorten 57 = .ok (.aload_n 0, 1) := by decide +kernel
theorem dX0_shorten_58 : decode cX0_shorten 58 = .ok (.getfield 19, 3) := by decide +kernel
theorem dX0_shorten_61 : decode cX0_shorten 61 = .ok (.iload_n 1, 1) := by decide +kernel
theorem dX0_shorten_62 : decode cX0_shorten 62 = .ok (.iload_n 2, 1) := by decide +kernel
theorem dX0_shorten_63 : decode cX0_shorten 63 = .ok (.invokevirtual 75, 3) := by decide +kernel
theorem dX0_shorten_66 : decode cX0_shorten 66 = .ok (.aload_n 0, 1) := by decide +kernel
theorem dX0_shorten_67 : decode cX0_shorten 67 = .ok (.iload_n 1, 1) := by decide +kernel
theorem dX0_shorten_68 : decode cX0_shorten 68 = .ok (.iload_n 2, 1) := by decide +kernel
theorem dX0_shorten_69 : decode cX0_shorten 69 = .ok (.bipush 64, 2) := by decide +kernel
theorem dX0_shorten_71 : decode cX0_shorten 71 = .ok (.iadd, 1) := by decide +kernel
theorem dX0_shorten_72 : decode cX0_shorten 72 = .ok (.iconst 1, 1) := by decide +kernel
theorem dX0_shorten_73 : decode cX0_shorten 73 = .ok (.isub, 1) := by decide +kernel
theorem dX0_shorten_74 : decode cX0_shorten 74 = .ok (.bipush 64, 2) := by decide +kernel
theorem dX0_shorten_76 : decode cX0_shorten 76 = .ok (.idiv, 1) := by decide +kernel
theorem dX0_shorten_77 : decode cX0_shorten 77 = .ok (.invokevirtual 91, 3) := by decide +kernel
theorem dX0_shorten_80 : decode cX0_shorten 80 = .ok (.ireturn, 1) := by decide +kernel
theorem dX10_cut_0 : decode cX10_cut 0 = .ok (.aload_n 0, 1) := by decide +kernel
theorem dX10_cut_1 : decode cX10_cut 1 = .ok (.getfield 63, 3) := by decide +kernel
theorem dX10_cut_4 : decode cX10_cut 4 = .ok (.bipush 40, 2) := by decide +kernel
theorem dX10_cut_6 : decode cX10_cut 6 = .ok (.invokevirtual 126, 3) := by decide +kernel
theorem dX10_cut_9 : decode cX10_cut 9 = .ok (.ifCond .ne 6, 3) := by decide +kernel
theorem dX10_cut_12 : decode cX10_cut 12 = .ok (.bipush (-99), 2) := by decide +kernel
theorem dX10_cut_14 : decode cX10_cut 14 = .ok (.ireturn, 1) := by decide +kernel
theorem dX10_cut_15 : decode cX10_cut 15 = .ok (.aload_n 0, 1) := by decide +kernel
theorem dX10_cut_16 : decode cX10_cut 16 = .ok (.getfield 71, 3) := by decide +kernel
theorem dX10_cut_19 : decode cX10_cut 19 = .ok (.iload_n 1, 1) := by decide +kernel
theorem dX10_cut_20 : decode cX10_cut 20 = .ok (.invokevirtual 173, 3) := by decide +kernel
theorem dX10_cut_23 : decode cX10_cut 23 = .ok (.iconst 1, 1) := by decide +kernel
theorem dX10_cut_24 : decode cX10_cut 24 = .ok (.if_icmp .eq 6, 3) := by decide +kernel
theorem dX10_cut_27 : decode cX10_cut 27 = .ok (.bipush (-14), 2) := by decide +kernel
theorem dX10_cut_29 : decode cX10_cut 29 = .ok (.ireturn, 1) := by decide +kernel
theorem dX10_cut_30 : decode cX10_cut 30 = .ok (.aload_n 0, 1) := by decide +kernel
theorem dX10_cut_31 : decode cX10_cut 31 = .ok (.getfield 71, 3) := by decide +kernel
theorem dX10_cut_34 : decode cX10_cut 34 = .ok (.iload_n 1, 1) := by decide +kernel
theorem dX10_cut_35 : decode cX10_cut 35 = .ok (.iconst 2, 1) := by decide +kernel
theorem dX10_cut_36 : decode cX10_cut 36 = .ok (.aload_n 0, 1) := by decide +kernel
theorem dX10_cut_37 : decode cX10_cut 37 = .ok (.getfield 113, 3) := by decide +kernel
theorem dX10_cut_40 : decode cX10_cut 40 = .ok (.invokevirtual 176, 3) := by decide +kernel
theorem dX10_cut_43 : decode cX10_cut 43 = .ok (.ifCond .ne 6, 3) := by decide +kernel
theorem dX10_cut_46 : decode cX10_cut 46 = .ok (.bipush (-20), 2) := by decide +kernel
theorem dX10_cut_48 : decode cX10_cut 48 = .ok (.ireturn, 1) := by decide +kernel
theorem dX10_cut_49 : decode cX10_cut 49 = .ok (.aload_n 0, 1) := by decide +kernel
theorem dX10_cut_50 : decode cX10_cut 50 = .ok (.getfield 71, 3) := by decide +kernel
theorem dX10_cut_53 : decode cX10_cut 53 = .ok (.iload_n 1, 1) := by decide +kernel
theorem dX10_cut_54 : decode cX10_cut 54 = .ok (.invokevirtual 180, 3) := by decide +kernel
theorem dX10_cut_57 : decode cX10_cut 57 = .ok (.istore_n 3, 1) := by decide +kernel
theorem dX10_cut_58 : decode cX10_cut 58 = .ok (.iload_n 2, 1) := by decide +kernel
theorem dX10_cut_59 : decode cX10_cut 59 = .ok (.ifCond .lt 8, 3) := by decide +kernel
theorem dX10_cut_62 : decode cX10_cut 62 = .ok (.iload_n 2, 1) := by decide +kernel
theorem dX10_cut_63 : decode cX10_cut 63 = .ok (.iload_n 3, 1) := by decide +kernel
theorem dX10_cut_64 : decode cX10_cut 64 = .ok (.if_icmp .le 6, 3) := by decide +kernel
theorem dX10_cut_67 : decode cX10_cut 67 = .ok (.bipush (-15), 2) := by decide +kernel
theorem dX10_cut_69 : decode cX10_cut 69 = .ok (.ireturn, 1) := by decide +kernel
theorem dX10_cut_70 : decode cX10_cut 70 = .ok (.iload_n 2, 1) := by decide +kernel
theorem dX10_cut_71 : decode cX10_cut 71 = .ok (.iload_n 3, 1) := by decide +kernel
theorem dX10_cut_72 : decode cX10_cut 72 = .ok (.if_icmp .ne 7, 3) := by decide +kernel
theorem dX10_cut_75 : decode cX10_cut 75 = .ok (.iconst 0, 1) := by decide +kernel
theorem dX10_cut_76 : decode cX10_cut 76 = .ok (.goto 12, 3) := by decide +kernel
theorem dX10_cut_79 : decode cX10_cut 79 = .ok (.aload_n 0, 1) := by decide +kernel
theorem dX10_cut_80 : decode cX10_cut 80 = .ok (.getfield 91, 3) := by decide +kernel
theorem dX10_cut_83 : decode cX10_cut 83 = .ok (.iload_n 1, 1) := by decide +kernel
theorem dX10_cut_84 : decode cX10_cut 84 = .ok (.iload_n 2, 1) := by decide +kernel
theorem dX10_cut_85 : decode cX10_cut 85 = .ok (.invokevirtual 183, 3) := by decide +kernel
theorem dX10_cut_88 : decode cX10_cut 88 = .ok (.ireturn, 1) := by decide +kernel
theorem dX3_nodeAt_0 : decode cX3_nodeAt 0 = .ok (.aload_n 0, 1) := by decide +kernel
theorem dX3_nodeAt_1 : decode cX3_nodeAt 1 = .ok (.getfield 9, 3) := by decide +kernel
theorem dX3_nodeAt_4 : decode cX3_nodeAt 4 = .ok (.aload_n 0, 1) := by decide +kernel
theorem dX3_nodeAt_5 : decode cX3_nodeAt 5 = .ok (.iload_n 1, 1) := by decide +kernel
theorem dX3_nodeAt_6 : decode cX3_nodeAt 6 = .ok (.iload_n 2, 1) := by decide +kernel
theorem dX3_nodeAt_7 : decode cX3_nodeAt 7 = .ok (.iconst 4, 1) := by decide +kernel
theorem dX3_nodeAt_8 : decode cX3_nodeAt 8 = .ok (.idiv, 1) := by decide +kernel
theorem dX3_nodeAt_9 : decode cX3_nodeAt 9 = .ok (.invokevirtual 49, 3) := by decide +kernel
theorem dX3_nodeAt_12 : decode cX3_nodeAt 12 = .ok (.bipush 16, 2) := by decide +kernel
theorem dX3_nodeAt_14 : decode cX3_nodeAt 14 = .ok (.iload_n 2, 1) := by decide +kernel
theorem dX3_nodeAt_15 : decode cX3_nodeAt 15 = .ok (.iconst 4, 1) := by decide +kernel
theorem dX3_nodeAt_16 : decode cX3_nodeAt 16 = .ok (.irem, 1) := by decide +kernel
theorem dX3_nodeAt_17 : decode cX3_nodeAt 17 = .ok (.iadd, 1) := by decide +kernel
theorem dX3_nodeAt_18 : decode cX3_nodeAt 18 = .ok (.invokevirtual 43, 3) := by decide +kernel
theorem dX3_nodeAt_21 : decode cX3_nodeAt 21 = .ok (.ireturn, 1) := by decide +kernel
theorem dX3_takeOut_0 : decode cX3_takeOut 0 = .ok (.aload_n 0, 1) := by decide +kernel
theorem dX3_takeOut_1 : decode cX3_takeOut 1 = .ok (.aload_n 0, 1) := by decide +kernel
theorem dX3_takeOut_2 : decode cX3_takeOut 2 = .ok (.iload_n 1, 1) := by decide +kernel
theorem dX3_takeOut_3 : decode cX3_takeOut 3 = .ok (.iload_n 2, 1) := by decide +kernel
theorem dX3_takeOut_4 : decode cX3_takeOut 4 = .ok (.iconst 4, 1) := by decide +kernel
theorem dX3_takeOut_5 : decode cX3_takeOut 5 = .ok (.idiv, 1) := by decide +kernel
theorem dX3_takeOut_6 : decode cX3_takeOut 6 = .ok (.invokevirtual 49, 3) := by decide +kernel
theorem dX3_takeOut_9 : decode cX3_takeOut 9 = .ok (.iload_n 2, 1) := by decide +kernel
theorem dX3_takeOut_10 : decode cX3_takeOut 10 = .ok (.iconst 4, 1) := by decide +kernel
theorem dX3_takeOut_11 : decode cX3_takeOut 11 = .ok (.irem, 1) := by decide +kernel
theorem dX3_takeOut_12 : decode cX3_takeOut 12 = .ok (.lconst 0, 1) := by decide +kernel
theorem dX3_takeOut_13 : decode cX3_takeOut 13 = .ok (.iconst 0, 1) := by decide +kernel
theorem dX3_takeOut_14 : decode cX3_takeOut 14 = .ok (.invokevirtual 64, 3) := by decide +kernel
theorem dX3_takeOut_17 : decode cX3_takeOut 17 = .ok (.return_, 1) := by decide +kernel
theorem dX5_giveBackBand_0 : decode cX5_giveBackBand 0 = .ok (.iload_n 1, 1) := by decide +kernel
theorem dX5_giveBackBand_1 : decode cX5_giveBackBand 1 = .ok (.aload_n 0, 1) := by decide +kernel
theorem dX5_giveBackBand_2 : decode cX5_giveBackBand 2 = .ok (.getfield 25, 3) := by decide +kernel
theorem dX5_giveBackBand_5 : decode cX5_giveBackBand 5 = .ok (.imul, 1) := by decide +kernel
theorem dX5_giveBackBand_6 : decode cX5_giveBackBand 6 = .ok (.istore_n 2, 1) := by decide +kernel
theorem dX5_giveBackBand_7 : decode cX5_giveBackBand 7 = .ok (.iload_n 2, 1) := by decide +kernel
theorem dX5_giveBackBand_8 : decode cX5_giveBackBand 8 = .ok (.istore_n 3, 1) := by decide +kernel
theorem dX5_giveBackBand_9 : decode cX5_giveBackBand 9 = .ok (.iload_n 3, 1) := by decide +kernel
theorem dX5_giveBackBand_10 : decode cX5_giveBackBand 10 = .ok (.iload_n 2, 1) := by decide +kernel
theorem dX5_giveBackBand_11 : decode cX5_giveBackBand 11 = .ok (.aload_n 0, 1) := by decide +kernel
theorem dX5_giveBackBand_12 : decode cX5_giveBackBand 12 = .ok (.getfield 25, 3) := by decide +kernel
theorem dX5_giveBackBand_15 : decode cX5_giveBackBand 15 = .ok (.iadd, 1) := by decide +kernel
theorem dX5_giveBackBand_16 : decode cX5_giveBackBand 16 = .ok (.if_icmp .ge 14, 3) := by decide +kernel
theorem dX5_giveBackBand_19 : decode cX5_giveBackBand 19 = .ok (.aload_n 0, 1) := by decide +kernel
theorem dX5_giveBackBand_20 : decode cX5_giveBackBand 20 = .ok (.iload_n 3, 1) := by decide +kernel
theorem dX5_giveBackBand_21 : decode cX5_giveBackBand 21 = .ok (.invokevirtual 73, 3) := by decide +kernel
theorem dX5_giveBackBand_24 : decode cX5_giveBackBand 24 = .ok (.iinc 3 1, 3) := by decide +kernel
theorem dX5_giveBackBand_27 : decode cX5_giveBackBand 27 = .ok (.goto (-18), 3) := by decide +kernel
theorem dX5_giveBackBand_30 : decode cX5_giveBackBand 30 = .ok (.aload_n 0, 1) := by decide +kernel
theorem dX5_giveBackBand_31 : decode cX5_giveBackBand 31 = .ok (.getfield 25, 3) := by decide +kernel
theorem dX5_giveBackBand_34 : decode cX5_giveBackBand 34 = .ok (.ireturn, 1) := by decide +kernel
theorem dX0_dropOne_0 : decode cX0_dropOne 0 = .ok (.aload_n 0, 1) := by decide +kernel
theorem dX0_dropOne_1 : decode cX0_dropOne 1 = .ok (.getfield 19, 3) := by decide +kernel
theorem dX0_dropOne_4 : decode cX0_dropOne 4 = .ok (.iload_n 1, 1) := by decide +kernel
theorem dX0_dropOne_5 : decode cX0_dropOne 5 = .ok (.invokevirtual 120, 3) := by decide +kernel
theorem dX0_dropOne_8 : decode cX0_dropOne 8 = .ok (.istore_n 2, 1) := by decide +kernel
theorem dX0_dropOne_9 : decode cX0_dropOne 9 = .ok (.iload_n 2, 1) := by decide +kernel
theorem dX0_dropOne_10 : decode cX0_dropOne 10 = .ok (.iconst 1, 1) := by decide +kernel
theorem dX0_dropOne_11 : decode cX0_dropOne 11 = .ok (.if_icmp .le 16, 3) := by decide +kernel
theorem dX0_dropOne_14 : decode cX0_dropOne 14 = .ok (.aload_n 0, 1) := by decide +kernel
theorem dX0_dropOne_15 : decode cX0_dropOne 15 = .ok (.getfield 19, 3) := by decide +kernel
theorem dX0_dropOne_18 : decode cX0_dropOne 18 = .ok (.iload_n 1, 1) := by decide +kernel
theorem dX0_dropOne_19 : decode cX0_dropOne 19 = .ok (.iload_n 2, 1) := by decide +kernel
theorem dX0_dropOne_20 : decode cX0_dropOne 20 = .ok (.iconst 1, 1) := by decide +kernel
theorem dX0_dropOne_21 : decode cX0_dropOne 21 = .ok (.isub, 1) := by decide +kernel
theorem dX0_dropOne_22 : decode cX0_dropOne 22 = .ok (.invokevirtual 123, 3) := by decide +kernel
theorem dX0_dropOne_25 : decode cX0_dropOne 25 = .ok (.iconst 0, 1) := by decide +kernel
theorem dX0_dropOne_26 : decode cX0_dropOne 26 = .ok (.ireturn, 1) := by decide +kernel
theorem dX0_dropOne_27 : decode cX0_dropOne 27 = .ok (.aload_n 0, 1) := by decide +kernel
theorem dX0_dropOne_28 : decode cX0_dropOne 28 = .ok (.getfield 19, 3) := by decide +kernel
theorem dX0_dropOne_31 : decode cX0_dropOne 31 = .ok (.iload_n 1, 1) := by decide +kernel
theorem dX0_dropOne_32 : decode cX0_dropOne 32 = .ok (.invokevirtual 27, 3) := by decide +kernel
theorem dX0_dropOne_35 : decode cX0_dropOne 35 = .ok (.istore_n 3, 1) := by decide +kernel
theorem dX0_dropOne_36 : decode cX0_dropOne 36 = .ok (.aload_n 0, 1) := by decide +kernel
theorem dX0_dropOne_37 : decode cX0_dropOne 37 = .ok (.getfield 19, 3) := by decide +kernel
theorem dX0_dropOne_40 : decode cX0_dropOne 40 = .ok (.iload_n 1, 1) := by decide +kernel
theorem dX0_dropOne_41 : decode cX0_dropOne 41 = .ok (.invokevirtual 36, 3) := by decide +kernel
theorem dX0_dropOne_44 : decode cX0_dropOne 44 = .ok (.istore 4, 2) := by decide +kernel
theorem dX0_dropOne_46 : decode cX0_dropOne 46 = .ok (.iconst 0, 1) := by decide +kernel
theorem dX0_dropOne_47 : decode cX0_dropOne 47 = .ok (.istore 5, 2) := by decide +kernel
theorem dX0_dropOne_49 : decode cX0_dropOne 49 = .ok (.iload_n 3, 1) := by decide +kernel
theorem dX0_dropOne_50 : decode cX0_dropOne 50 = .ok (.iconst 1, 1) := by decide +kernel
theorem dX0_dropOne_51 : decode cX0_dropOne 51 = .ok (.if_icmp .ne 14, 3) := by decide +kernel
theorem dX0_dropOne_54 : decode cX0_dropOne 54 = .ok (.aload_n 0, 1) := by decide +kernel
theorem dX0_dropOne_55 : decode cX0_dropOne 55 = .ok (.iload_n 1, 1) := by decide +kernel
theorem dX0_dropOne_56 : decode cX0_dropOne 56 = .ok (.iconst 0, 1) := by decide +kernel
theorem dX0_dropOne_57 : decode cX0_dropOne 57 = .ok (.invokevirtual 91, 3) := by decide +kernel
theorem dX0_dropOne_60 : decode cX0_dropOne 60 = .ok (.istore 5, 2) := by decide +kernel
theorem dX0_dropOne_62 : decode cX0_dropOne 62 = .ok (.goto 44, 3) := by decide +kernel
theorem dX0_dropOne_65 : decode cX0_dropOne 65 = .ok (.iload_n 3, 1) := by decide +kernel
theorem dX0_dropOne_66 : decode cX0_dropOne 66 = .ok (.iconst 3, 1) := by decide +kernel
theorem dX0_dropOne_67 : decode cX0_dropOne 67 = .ok (.if_icmp .ne 23, 3) := by decide +kernel
theorem dX0_dropOne_70 : decode cX0_dropOne 70 = .ok (.aload_n 0, 1) := by decide +kernel
theorem dX0_dropOne_71 : decode cX0_dropOne 71 = .ok (.getfield 15, 3) := by decide +kernel
theorem dX0_dropOne_74 : decode cX0_dropOne 74 = .ok (.aload_n 0, 1) := by decide +kernel
theorem dX0_dropOne_75 : decode cX0_dropOne 75 = .ok (.getfield 19, 3) := by decide +kernel
theorem dX0_dropOne_78 : decode cX0_dropOne 78 = .ok (.iload_n 1, 1) := by decide +kernel
theorem dX0_dropOne_79 : decode cX0_dropOne 79 = .ok (.invokevirtual 51, 3) := by decide +kernel
theorem dX0_dropOne_82 : decode cX0_dropOne 82 = .ok (.invokevirtual 126, 3) := by decide +kernel
theorem dX0_dropOne_85 : decode cX0_dropOne 85 = .ok (.istore 5, 2) := by decide +kernel
theorem dX0_dropOne_87 : decode cX0_dropOne 87 = .ok (.goto 19, 3) := by decide +kernel
theorem dX0_dropOne_90 : decode cX0_dropOne 90 = .ok (.iload_n 3, 1) := by decide +kernel
theorem dX0_dropOne_91 : decode cX0_dropOne 91 = .ok (.iconst 2, 1) := by decide +kernel
theorem dX0_dropOne_92 : decode cX0_dropOne 92 = .ok (.if_icmp .ne 14, 3) := by decide +kernel
theorem dX0_dropOne_95 : decode cX0_dropOne 95 = .ok (.aload_n 0, 1) := by decide +kernel
theorem dX0_dropOne_96 : decode cX0_dropOne 96 = .ok (.iload 4, 2) := by decide +kernel
theorem dX0_dropOne_98 : decode cX0_dropOne 98 = .ok (.iconst 4, 1) := by decide +kernel
theorem dX0_dropOne_99 : decode cX0_dropOne 99 = .ok (.bipush 16, 2) := by decide +kernel
theorem dX0_dropOne_101 : decode cX0_dropOne 101 = .ok (.invokevirtual 99, 3) := by decide +kernel
theorem dX0_dropOne_104 : decode cX0_dropOne 104 = .ok (.istore 5, 2) := by decide +kernel
theorem dX0_dropOne_106 : decode cX0_dropOne 106 = .ok (.aload_n 0, 1) := by decide +kernel
theorem dX0_dropOne_107 : decode cX0_dropOne 107 = .ok (.getfield 11, 3) := by decide +kernel
theorem dX0_dropOne_110 : decode cX0_dropOne 110 = .ok (.iload 4, 2) := by decide +kernel
theorem dX0_dropOne_112 : decode cX0_dropOne 112 = .ok (.invokevirtual 129, 3) := by decide +kernel
theorem dX0_dropOne_115 : decode cX0_dropOne 115 = .ok (.iload 5, 2) := by decide +kernel
theorem dX0_dropOne_117 : decode cX0_dropOne 117 = .ok (.ireturn, 1) := by decide +kernel
theorem dX3_nameAt_0 : decode cX3_nameAt 0 = .ok (.aload_n 0, 1) := by decide +kernel
theorem dX3_nameAt_1 : decode cX3_nameAt 1 = .ok (.iload_n 1, 1) := by decide +kernel
theorem dX3_nameAt_2 : decode cX3_nameAt 2 = .ok (.iload_n 2, 1) := by decide +kernel
theorem dX3_nameAt_3 : decode cX3_nameAt 3 = .ok (.iconst 4, 1) := by decide +kernel
theorem dX3_nameAt_4 : decode cX3_nameAt 4 = .ok (.idiv, 1) := by decide +kernel
theorem dX3_nameAt_5 : decode cX3_nameAt 5 = .ok (.invokevirtual 49, 3) := by decide +kernel
theorem dX3_nameAt_8 : decode cX3_nameAt 8 = .ok (.istore_n 3, 1) := by decide +kernel
theorem dX3_nameAt_9 : decode cX3_nameAt 9 = .ok (.iload_n 3, 1) := by decide +kernel
theorem dX3_nameAt_10 : decode cX3_nameAt 10 = .ok (.ifCond .ne 7, 3) := by decide +kernel
theorem dX3_nameAt_13 : decode cX3_nameAt 13 = .ok (.lconst 0, 1) := by decide +kernel
theorem dX3_nameAt_14 : decode cX3_nameAt 14 = .ok (.goto 14, 3) := by decide +kernel
theorem dX3_nameAt_17 : decode cX3_nameAt 17 = .ok (.aload_n 0, 1) := by decide +kernel
theorem dX3_nameAt_18 : decode cX3_nameAt 18 = .ok (.getfield 9, 3) := by decide +kernel
theorem dX3_nameAt_21 : decode cX3_nameAt 21 = .ok (.iload_n 3, 1) := by decide +kernel
theorem dX3_nameAt_22 : decode cX3_nameAt 22 = .ok (.iload_n 2, 1) := by decide +kernel
theorem dX3_nameAt_23 : decode cX3_nameAt 23 = .ok (.iconst 4, 1) := by decide +kernel
theorem dX3_nameAt_24 : decode cX3_nameAt 24 = .ok (.irem, 1) := by decide +kernel
theorem dX3_nameAt_25 : decode cX3_nameAt 25 = .ok (.invokevirtual 52, 3) := by decide +kernel
theorem dX3_nameAt_28 : decode cX3_nameAt 28 = .ok (.lreturn, 1) := by decide +kernel
theorem dX3_nameCount_0 : decode cX3_nameCount 0 = .ok (.iconst 0, 1) := by decide +kernel
theorem dX3_nameCount_1 : decode cX3_nameCount 1 = .ok (.istore_n 2, 1) := by decide +kernel
theorem dX3_nameCount_2 : decode cX3_nameCount 2 = .ok (.iconst 0, 1) := by decide +kernel
theorem dX3_nameCount_3 : decode cX3_nameCount 3 = .ok (.istore_n 3, 1) := by decide +kernel
theorem dX3_nameCount_4 : decode cX3_nameCount 4 = .ok (.iload_n 3, 1) := by decide +kernel
theorem dX3_nameCount_5 : decode cX3_nameCount 5 = .ok (.bipush 48, 2) := by decide +kernel
theorem dX3_nameCount_7 : decode cX3_nameCount 7 = .ok (.if_icmp .ge 23, 3) := by decide +kernel
theorem dX3_nameCount_10 : decode cX3_nameCount 10 = .ok (.aload_n 0, 1) := by decide +kernel
theorem dX3_nameCount_11 : decode cX3_nameCount 11 = .ok (.iload_n 1, 1) := by decide +kernel
theorem dX3_nameCount_12 : decode cX3_nameCount 12 = .ok (.iload_n 3, 1) := by decide +kernel
theorem dX3_nameCount_13 : decode cX3_nameCount 13 = .ok (.invokevirtual 81, 3) := by decide +kernel
theorem dX3_nameCount_16 : decode cX3_nameCount 16 = .ok (.lconst 0, 1) := by decide +kernel
theorem dX3_nameCount_17 : decode cX3_nameCount 17 = .ok (.lcmp, 1) := by decide +kernel
theorem dX3_nameCount_18 : decode cX3_nameCount 18 = .ok (.ifCond .eq 6, 3) := by decide +kernel
theorem dX3_nameCount_21 : decode cX3_nameCount 21 = .ok (.iinc 2 1, 3) := by decide +kernel
theorem dX3_nameCount_24 : decode cX3_nameCount 24 = .ok (.iinc 3 1, 3) := by decide +kernel
theorem dX3_nameCount_27 : decode cX3_nameCount 27 = .ok (.goto (-23), 3) := by decide +kernel
theorem dX3_nameCount_30 : decode cX3_nameCount 30 = .ok (.iload_n 2, 1) := by decide +kernel
theorem dX3_nameCount_31 : decode cX3_nameCount 31 = .ok (.ireturn, 1) := by decide +kernel
theorem dX10_drop_0 : decode cX10_drop 0 = .ok (.aload_n 0, 1) := by decide +kernel
theorem dX10_drop_1 : decode cX10_drop 1 = .ok (.getfield 63, 3) := by decide +kernel
theorem dX10_drop_4 : decode cX10_drop 4 = .ok (.bipush 40, 2) := by decide +kernel
theorem dX10_drop_6 : decode cX10_drop 6 = .ok (.invokevirtual 126, 3) := by decide +kernel
theorem dX10_drop_9 : decode cX10_drop 9 = .ok (.ifCond .ne 6, 3) := by decide +kernel
theorem dX10_drop_12 : decode cX10_drop 12 = .ok (.bipush (-99), 2) := by decide +kernel
theorem dX10_drop_14 : decode cX10_drop 14 = .ok (.ireturn, 1) := by decide +kernel
theorem dX10_drop_15 : decode cX10_drop 15 = .ok (.aload_n 0, 1) := by decide +kernel
theorem dX10_drop_16 : decode cX10_drop 16 = .ok (.iload_n 1, 1) := by decide +kernel
theorem dX10_drop_17 : decode cX10_drop 17 = .ok (.lload_n 2, 1) := by decide +kernel
theorem dX10_drop_18 : decode cX10_drop 18 = .ok (.invokevirtual 145, 3) := by decide +kernel
theorem dX10_drop_21 : decode cX10_drop 21 = .ok (.istore 4, 2) := by decide +kernel
theorem dX10_drop_23 : decode cX10_drop 23 = .ok (.iload 4, 2) := by decide +kernel
theorem dX10_drop_25 : decode cX10_drop 25 = .ok (.ifCond .eq 6, 3) := by decide +kernel
theorem dX10_drop_28 : decode cX10_drop 28 = .ok (.iload 4, 2) := by decide +kernel
theorem dX10_drop_30 : decode cX10_drop 30 = .ok (.ireturn, 1) := by decide +kernel
theorem dX10_drop_31 : decode cX10_drop 31 = .ok (.aload_n 0, 1) := by decide +kernel
theorem dX10_drop_32 : decode cX10_drop 32 = .ok (.getfield 75, 3) := by decide +kernel
theorem dX10_drop_35 : decode cX10_drop 35 = .ok (.iload_n 1, 1) := by decide +kernel
theorem dX10_drop_36 : decode cX10_drop 36 = .ok (.lload_n 2, 1) := by decide +kernel
theorem dX10_drop_37 : decode cX10_drop 37 = .ok (.invokevirtual 151, 3) := by decide +kernel
theorem dX10_drop_40 : decode cX10_drop 40 = .ok (.istore 5, 2) := by decide +kernel
theorem dX10_drop_42 : decode cX10_drop 42 = .ok (.iload 5, 2) := by decide +kernel
theorem dX10_drop_44 : decode cX10_drop 44 = .ok (.iconst (-1), 1) := by decide +kernel
theorem dX10_drop_45 : decode cX10_drop 45 = .ok (.if_icmp .ne 6, 3) := by decide +kernel
theorem dX10_drop_48 : decode cX10_drop 48 = .ok (.bipush (-12), 2) := by decide +kernel
theorem dX10_drop_50 : decode cX10_drop 50 = .ok (.ireturn, 1) := by decide +kernel
theorem dX10_drop_51 : decode cX10_drop 51 = .ok (.aload_n 0, 1) := by decide +kernel
theorem dX10_drop_52 : decode cX10_drop 52 = .ok (.getfield 75, 3) := by decide +kernel
theorem dX10_drop_55 : decode cX10_drop 55 = .ok (.iload_n 1, 1) := by decide +kernel
theorem dX10_drop_56 : decode cX10_drop 56 = .ok (.iload 5, 2) := by decide +kernel
theorem dX10_drop_58 : decode cX10_drop 58 = .ok (.invokevirtual 186, 3) := by decide +kernel
theorem dX10_drop_61 : decode cX10_drop 61 = .ok (.istore 6, 2) := by decide +kernel
theorem dX10_drop_63 : decode cX10_drop 63 = .ok (.aload_n 0, 1) := by decide +kernel
theorem dX10_drop_64 : decode cX10_drop 64 = .ok (.getfield 71, 3) := by decide +kernel
theorem dX10_drop_67 : decode cX10_drop 67 = .ok (.iload 6, 2) := by decide +kernel
theorem dX10_drop_69 : decode cX10_drop 69 = .ok (.invokevirtual 173, 3) := by decide +kernel
theorem dX10_drop_72 : decode cX10_drop 72 = .ok (.iconst 2, 1) := by decide +kernel
theorem dX10_drop_73 : decode cX10_drop 73 = .ok (.if_icmp .ne 18, 3) := by decide +kernel
theorem dX10_drop_76 : decode cX10_drop 76 = .ok (.aload_n 0, 1) := by decide +kernel
theorem dX10_drop_77 : decode cX10_drop 77 = .ok (.getfield 75, 3) := by decide +kernel
theorem dX10_drop_80 : decode cX10_drop 80 = .ok (.iload 6, 2) := by decide +kernel
theorem dX10_drop_82 : decode cX10_drop 82 = .ok (.invokevirtual 189, 3) := by decide +kernel
theorem dX10_drop_85 : decode cX10_drop 85 = .ok (.ifCond .le 6, 3) := by decide +kernel
theorem dX10_drop_88 : decode cX10_drop 88 = .ok (.bipush (-17), 2) := by decide +kernel
theorem dX10_drop_90 : decode cX10_drop 90 = .ok (.ireturn, 1) := by decide +kernel
theorem dX10_drop_91 : decode cX10_drop 91 = .ok (.aload_n 0, 1) := by decide +kernel
theorem dX10_drop_92 : decode cX10_drop 92 = .ok (.getfield 75, 3) := by decide +kernel
theorem dX10_drop_95 : decode cX10_drop 95 = .ok (.iload_n 1, 1) := by decide +kernel
theorem dX10_drop_96 : decode cX10_drop 96 = .ok (.iload 5, 2) := by decide +kernel
theorem dX10_drop_98 : decode cX10_drop 98 = .ok (.invokevirtual 192, 3) := by decide +kernel
theorem dX10_drop_101 : decode cX10_drop 101 = .ok (.aload_n 0, 1) := by decide +kernel
theorem dX10_drop_102 : decode cX10_drop 102 = .ok (.getfield 91, 3) := by decide +kernel
theorem dX10_drop_105 : decode cX10_drop 105 = .ok (.iload 6, 2) := by decide +kernel
theorem dX10_drop_107 : decode cX10_drop 107 = .ok (.invokevirtual 195, 3) := by decide +kernel
theorem dX10_drop_110 : decode cX10_drop 110 = .ok (.ireturn, 1) := by decide +kernel
theorem dX10_refusalToGoByBoth_0 : decode cX10_refusalToGoByBoth 0 = .ok (.aload_n 0, 1) := by decide +kernel
theorem dX10_refusalToGoByBoth_1 : decode cX10_refusalToGoByBoth 1 = .ok (.iload_n 1, 1) := by decide +kernel
theorem dX10_refusalToGoByBoth_2 : decode cX10_refusalToGoByBoth 2 = .ok (.lload_n 2, 1) := by decide +kernel
theorem dX10_refusalToGoByBoth_3 : decode cX10_refusalToGoByBoth 3 = .ok (.invokevirtual 145, 3) := by decide +kernel
theorem dX10_refusalToGoByBoth_6 : decode cX10_refusalToGoByBoth 6 = .ok (.istore 7, 2) := by decide +kernel
theorem dX10_refusalToGoByBoth_8 : decode cX10_refusalToGoByBoth 8 = .ok (.aload_n 0, 1) := by decide +kernel
theorem dX10_refusalToGoByBoth_9 : decode cX10_refusalToGoByBoth 9 = .ok (.iload 4, 2) := by decide +kernel
theorem dX10_refusalToGoByBoth_11 : decode cX10_refusalToGoByBoth 11 = .ok (.lload 5, 2) := by decide +kernel
theorem dX10_refusalToGoByBoth_13 : decode cX10_refusalToGoByBoth 13 = .ok (.invokevirtual 145, 3) := by decide +kernel
theorem dX10_refusalToGoByBoth_16 : decode cX10_refusalToGoByBoth 16 = .ok (.istore 8, 2) := by decide +kernel
theorem dX10_refusalToGoByBoth_18 : decode cX10_refusalToGoByBoth 18 = .ok (.iload 7, 2) := by decide +kernel
theorem dX10_refusalToGoByBoth_20 : decode cX10_refusalToGoByBoth 20 = .ok (.ifCond .eq 8, 3) := by decide +kernel
theorem dX10_refusalToGoByBoth_23 : decode cX10_refusalToGoByBoth 23 = .ok (.iload 8, 2) := by decide +kernel
theorem dX10_refusalToGoByBoth_25 : decode cX10_refusalToGoByBoth 25 = .ok (.ifCond .ne 13, 3) := by decide +kernel
theorem dX10_refusalToGoByBoth_28 : decode cX10_refusalToGoByBoth 28 = .ok (.iload 7, 2) := by decide +kernel
theorem dX10_refusalToGoByBoth_30 : decode cX10_refusalToGoByBoth 30 = .ok (.iload 8, 2) := by decide +kernel
theorem dX10_refusalToGoByBoth_32 : decode cX10_refusalToGoByBoth 32 = .ok (.invokestatic 339, 3) := by decide +kernel
theorem dX10_refusalToGoByBoth_35 : decode cX10_refusalToGoByBoth 35 = .ok (.goto 10, 3) := by decide +kernel
theorem dX10_refusalToGoByBoth_38 : decode cX10_refusalToGoByBoth 38 = .ok (.iload 7, 2) := by decide +kernel
theorem dX10_refusalToGoByBoth_40 : decode cX10_refusalToGoByBoth 40 = .ok (.iload 8, 2) := by decide +kernel
theorem dX10_refusalToGoByBoth_42 : decode cX10_refusalToGoByBoth 42 = .ok (.invokestatic 274, 3) := by decide +kernel
theorem dX10_refusalToGoByBoth_45 : decode cX10_refusalToGoByBoth 45 = .ok (.ireturn, 1) := by decide +kernel
theorem dX4_isWithin_0 : decode cX4_isWithin 0 = .ok (.iload_n 1, 1) := by decide +kernel
theorem dX4_isWithin_1 : decode cX4_isWithin 1 = .ok (.istore_n 3, 1) := by decide +kernel
theorem dX4_isWithin_2 : decode cX4_isWithin 2 = .ok (.iconst 0, 1) := by decide +kernel
theorem dX4_isWithin_3 : decode cX4_isWithin 3 = .ok (.istore 4, 2) := by decide +kernel
theorem dX4_isWithin_5 : decode cX4_isWithin 5 = .ok (.iload 4, 2) := by decide +kernel
theorem dX4_isWithin_7 : decode cX4_isWithin 7 = .ok (.bipush 64, 2) := by decide +kernel
theorem dX4_isWithin_9 : decode cX4_isWithin 9 = .ok (.if_icmp .ge 22, 3) := by decide +kernel
theorem dX4_isWithin_12 : decode cX4_isWithin 12 = .ok (.iload_n 3, 1) := by decide +kernel
theorem dX4_isWithin_13 : decode cX4_isWithin 13 = .ok (.iload_n 2, 1) := by decide +kernel
theorem dX4_isWithin_14 : decode cX4_isWithin 14 = .ok (.if_icmp .ne 5, 3) := by decide +kernel
theorem dX4_isWithin_17 : decode cX4_isWithin 17 = .ok (.iconst 1, 1) := by decide +kernel
theorem dX4_isWithin_18 : decode cX4_isWithin 18 = .ok (.ireturn, 1) := by decide +kernel
theorem dX4_isWithin_19 : decode cX4_isWithin 19 = .ok (.aload_n 0, 1) := by decide +kernel
theorem dX4_isWithin_20 : decode cX4_isWithin 20 = .ok (.iload_n 3, 1) := by decide +kernel
theorem dX4_isWithin_21 : decode cX4_isWithin 21 = .ok (.invokevirtual 70, 3) := by decide +kernel
theorem dX4_isWithin_24 : decode cX4_isWithin 24 = .ok (.istore_n 3, 1) := by decide +kernel
theorem dX4_isWithin_25 : decode cX4_isWithin 25 = .ok (.iinc 4 1, 3) := by decide +kernel
theorem dX4_isWithin_28 : decode cX4_isWithin 28 = .ok (.goto (-23), 3) := by decide +kernel
theorem dX4_isWithin_31 : decode cX4_isWithin 31 = .ok (.iconst 0, 1) := by decide +kernel
theorem dX4_isWithin_32 : decode cX4_isWithin 32 = .ok (.ireturn, 1) := by decide +kernel
theorem dX10_refusalToMove_0 : decode cX10_refusalToMove 0 = .ok (.aload_n 0, 1) := by decide +kernel
theorem dX10_refusalToMove_1 : decode cX10_refusalToMove 1 = .ok (.getfield 71, 3) := by decide +kernel
theorem dX10_refusalToMove_4 : decode cX10_refusalToMove 4 = .ok (.iload_n 1, 1) := by decide +kernel
theorem dX10_refusalToMove_5 : decode cX10_refusalToMove 5 = .ok (.invokevirtual 173, 3) := by decide +kernel
theorem dX10_refusalToMove_8 : decode cX10_refusalToMove 8 = .ok (.iconst 2, 1) := by decide +kernel
theorem dX10_refusalToMove_9 : decode cX10_refusalToMove 9 = .ok (.if_icmp .ne 7, 3) := by decide +kernel
theorem dX10_refusalToMove_12 : decode cX10_refusalToMove 12 = .ok (.iconst 1, 1) := by decide +kernel
theorem dX10_refusalToMove_13 : decode cX10_refusalToMove 13 = .ok (.goto 4, 3) := by decide +kernel
theorem dX10_refusalToMove_16 : decode cX10_refusalToMove 16 = .ok (.iconst 0, 1) := by decide +kernel
theorem dX10_refusalToMove_17 : decode cX10_refusalToMove 17 = .ok (.istore 5, 2) := by decide +kernel
theorem dX10_refusalToMove_19 : decode cX10_refusalToMove 19 = .ok (.iload 5, 2) := by decide +kernel
theorem dX10_refusalToMove_21 : decode cX10_refusalToMove 21 = .ok (.ifCond .eq 18, 3) := by decide +kernel
theorem dX10_refusalToMove_24 : decode cX10_refusalToMove 24 = .ok (.aload_n 0, 1) := by decide +kernel
theorem dX10_refusalToMove_25 : decode cX10_refusalToMove 25 = .ok (.getfield 71, 3) := by decide +kernel
theorem dX10_refusalToMove_28 : decode cX10_refusalToMove 28 = .ok (.iload_n 3, 1) := by decide +kernel
theorem dX10_refusalToMove_29 : decode cX10_refusalToMove 29 = .ok (.iload_n 1, 1) := by decide +kernel
theorem dX10_refusalToMove_30 : decode cX10_refusalToMove 30 = .ok (.invokevirtual 342, 3) := by decide +kernel
theorem dX10_refusalToMove_33 : decode cX10_refusalToMove 33 = .ok (.ifCond .eq 6, 3) := by decide +kernel
theorem dX10_refusalToMove_36 : decode cX10_refusalToMove 36 = .ok (.bipush (-18), 2) := by decide +kernel
theorem dX10_refusalToMove_38 : decode cX10_refusalToMove 38 = .ok (.ireturn, 1) := by decide +kernel
theorem dX10_refusalToMove_39 : decode cX10_refusalToMove 39 = .ok (.iload 4, 2) := by decide +kernel
theorem dX10_refusalToMove_41 : decode cX10_refusalToMove 41 = .ok (.iconst (-1), 1) := by decide +kernel
theorem dX10_refusalToMove_42 : decode cX10_refusalToMove 42 = .ok (.if_icmp .ne 27, 3) := by decide +kernel
theorem dX10_refusalToMove_45 : decode cX10_refusalToMove 45 = .ok (.iload_n 2, 1) := by decide +kernel
theorem dX10_refusalToMove_46 : decode cX10_refusalToMove 46 = .ok (.iload_n 3, 1) := by decide +kernel
theorem dX10_refusalToMove_47 : decode cX10_refusalToMove 47 = .ok (.if_icmp .eq 15, 3) := by decide +kernel
theorem dX10_refusalToMove_50 : decode cX10_refusalToMove 50 = .ok (.aload_n 0, 1) := by decide +kernel
theorem dX10_refusalToMove_51 : decode cX10_refusalToMove 51 = .ok (.getfield 75, 3) := by decide +kernel
theorem dX10_refusalToMove_54 : decode cX10_refusalToMove 54 = .ok (.iload_n 3, 1) := by decide +kernel
theorem dX10_refusalToMove_55 : decode cX10_refusalToMove 55 = .ok (.iconst 0, 1) := by decide +kernel
theorem dX10_refusalToMove_56 : decode cX10_refusalToMove 56 = .ok (.invokevirtual 158, 3) := by decide +kernel
theorem dX10_refusalToMove_59 : decode cX10_refusalToMove 59 = .ok (.ifCond .eq 7, 3) := by decide +kernel
theorem dX10_refusalToMove_62 : decode cX10_refusalToMove 62 = .ok (.iconst 0, 1) := by decide +kernel
theorem dX10_refusalToMove_63 : decode cX10_refusalToMove 63 = .ok (.goto 5, 3) := by decide +kernel
theorem dX10_refusalToMove_66 : decode cX10_refusalToMove 66 = .ok (.bipush (-16), 2) := by decide +kernel
theorem dX10_refusalToMove_68 : decode cX10_refusalToMove 68 = .ok (.ireturn, 1) := by decide +kernel
theorem dX10_refusalToMove_69 : decode cX10_refusalToMove 69 = .ok (.aload_n 0, 1) := by decide +kernel
theorem dX10_refusalToMove_70 : decode cX10_refusalToMove 70 = .ok (.getfield 75, 3) := by decide +kernel
theorem dX10_refusalToMove_73 : decode cX10_refusalToMove 73 = .ok (.iload_n 3, 1) := by decide +kernel
theorem dX10_refusalToMove_74 : decode cX10_refusalToMove 74 = .ok (.iload 4, 2) := by decide +kernel
theorem dX10_refusalToMove_76 : decode cX10_refusalToMove 76 = .ok (.invokevirtual 186, 3) := by decide +kernel
theorem dX10_refusalToMove_79 : decode cX10_refusalToMove 79 = .ok (.istore 6, 2) := by decide +kernel
theorem dX10_refusalToMove_81 : decode cX10_refusalToMove 81 = .ok (.aload_n 0, 1) := by decide +kernel
theorem dX10_refusalToMove_82 : decode cX10_refusalToMove 82 = .ok (.getfield 71, 3) := by decide +kernel
theorem dX10_refusalToMove_85 : decode cX10_refusalToMove 85 = .ok (.iload 6, 2) := by decide +kernel
theorem dX10_refusalToMove_87 : decode cX10_refusalToMove 87 = .ok (.invokevirtual 173, 3) := by decide +kernel
theorem dX10_refusalToMove_90 : decode cX10_refusalToMove 90 = .ok (.iconst 2, 1) := by decide +kernel
theorem dX10_refusalToMove_91 : decode cX10_refusalToMove 91 = .ok (.if_icmp .ne 7, 3) := by decide +kernel
theorem dX10_refusalToMove_94 : decode cX10_refusalToMove 94 = .ok (.iconst 1, 1) := by decide +kernel
theorem dX10_refusalToMove_95 : decode cX10_refusalToMove 95 = .ok (.goto 4, 3) := by decide +kernel
theorem dX10_refusalToMove_98 : decode cX10_refusalToMove 98 = .ok (.iconst 0, 1) := by decide +kernel
theorem dX10_refusalToMove_99 : decode cX10_refusalToMove 99 = .ok (.istore 7, 2) := by decide +kernel
theorem dX10_refusalToMove_101 : decode cX10_refusalToMove 101 = .ok (.iload 6, 2) := by decide +kernel
theorem dX10_refusalToMove_103 : decode cX10_refusalToMove 103 = .ok (.iload_n 1, 1) := by decide +kernel
theorem dX10_refusalToMove_104 : decode cX10_refusalToMove 104 = .ok (.if_icmp .eq 10, 3) := by decide +kernel
theorem dX10_refusalToMove_107 : decode cX10_refusalToMove 107 = .ok (.iload 7, 2) := by decide +kernel
theorem dX10_refusalToMove_109 : decode cX10_refusalToMove 109 = .ok (.iload 5, 2) := by decide +kernel
theorem dX10_refusalToMove_111 : decode cX10_refusalToMove 111 = .ok (.if_icmp .eq 6, 3) := by decide +kernel
theorem dX10_refusalToMove_114 : decode cX10_refusalToMove 114 = .ok (.bipush (-13), 2) := by decide +kernel
theorem dX10_refusalToMove_116 : decode cX10_refusalToMove 116 = .ok (.ireturn, 1) := by decide +kernel
theorem dX10_refusalToMove_117 : decode cX10_refusalToMove 117 = .ok (.iload 7, 2) := by decide +kernel
theorem dX10_refusalToMove_119 : decode cX10_refusalToMove 119 = .ok (.ifCond .eq 20, 3) := by decide +kernel
theorem dX10_refusalToMove_122 : decode cX10_refusalToMove 122 = .ok (.aload_n 0, 1) := by decide +kernel
theorem dX10_refusalToMove_123 : decode cX10_refusalToMove 123 = .ok (.getfield 75, 3) := by decide +kernel
theorem dX10_refusalToMove_126 : decode cX10_refusalToMove 126 = .ok (.iload 6, 2) := by decide +kernel
theorem dX10_refusalToMove_128 : decode cX10_refusalToMove 128 = .ok (.invokevirtual 189, 3) := by decide +kernel
theorem dX10_refusalToMove_131 : decode cX10_refusalToMove 131 = .ok (.ifCond .le 8, 3) := by decide +kernel
theorem dX10_refusalToMove_134 : decode cX10_refusalToMove 134 = .ok (.bipush (-17), 2) := by decide +kernel
theorem dX10_refusalToMove_136 : decode cX10_refusalToMove 136 = .ok (.goto 4, 3) := by decide +kernel
theorem dX10_refusalToMove_139 : decode cX10_refusalToMove 139 = .ok (.iconst 0, 1) := by decide +kernel
theorem dX10_refusalToMove_140 : decode cX10_refusalToMove 140 = .ok (.ireturn, 1) := by decide +kernel
theorem dX10_rename_0 : decode cX10_rename 0 = .ok (.aload_n 0, 1) := by decide +kernel
theorem dX10_rename_1 : decode cX10_rename 1 = .ok (.getfield 63, 3) := by decide +kernel
theorem dX10_rename_4 : decode cX10_rename 4 = .ok (.bipush 40, 2) := by decide +kernel
theorem dX10_rename_6 : decode cX10_rename 6 = .ok (.invokevirtual 126, 3) := by decide +kernel
theorem dX10_rename_9 : decode cX10_rename 9 = .ok (.ifCond .ne 6, 3) := by decide +kernel
theorem dX10_rename_12 : decode cX10_rename 12 = .ok (.bipush (-99), 2) := by decide +kernel
theorem dX10_rename_14 : decode cX10_rename 14 = .ok (.ireturn, 1) := by decide +kernel
theorem dX10_rename_15 : decode cX10_rename 15 = .ok (.aload_n 0, 1) := by decide +kernel
theorem dX10_rename_16 : decode cX10_rename 16 = .ok (.iload_n 1, 1) := by decide +kernel
theorem dX10_rename_17 : decode cX10_rename 17 = .ok (.lload_n 2, 1) := by decide +kernel
theorem dX10_rename_18 : decode cX10_rename 18 = .ok (.iload 4, 2) := by decide +kernel
theorem dX10_rename_20 : decode cX10_rename 20 = .ok (.lload 5, 2) := by decide +kernel
theorem dX10_rename_22 : decode cX10_rename 22 = .ok (.invokevirtual 198, 3) := by decide +kernel
theorem dX10_rename_25 : decode cX10_rename 25 = .ok (.istore 7, 2) := by decide +kernel
theorem dX10_rename_27 : decode cX10_rename 27 = .ok (.iload 7, 2) := by decide +kernel
theorem dX10_rename_29 : decode cX10_rename 29 = .ok (.ifCond .eq 6, 3) := by decide +kernel
theorem dX10_rename_32 : decode cX10_rename 32 = .ok (.iload 7, 2) := by decide +kernel
theorem dX10_rename_34 : decode cX10_rename 34 = .ok (.ireturn, 1) := by decide +kernel
theorem dX10_rename_35 : decode cX10_rename 35 = .ok (.aload_n 0, 1) := by decide +kernel
theorem dX10_rename_36 : decode cX10_rename 36 = .ok (.getfield 75, 3) := by decide +kernel
theorem dX10_rename_39 : decode cX10_rename 39 = .ok (.iload_n 1, 1) := by decide +kernel
theorem dX10_rename_40 : decode cX10_rename 40 = .ok (.lload_n 2, 1) := by decide +kernel
theorem dX10_rename_41 : decode cX10_rename 41 = .ok (.invokevirtual 151, 3) := by decide +kernel
theorem dX10_rename_44 : decode cX10_rename 44 = .ok (.istore 8, 2) := by decide +kernel
theorem dX10_rename_46 : decode cX10_rename 46 = .ok (.iload 8, 2) := by decide +kernel
theorem dX10_rename_48 : decode cX10_rename 48 = .ok (.iconst (-1), 1) := by decide +kernel
theorem dX10_rename_49 : decode cX10_rename 49 = .ok (.if_icmp .ne 6, 3) := by decide +kernel
theorem dX10_rename_52 : decode cX10_rename 52 = .ok (.bipush (-12), 2) := by decide +kernel
theorem dX10_rename_54 : decode cX10_rename 54 = .ok (.ireturn, 1) := by decide +kernel
theorem dX10_rename_55 : decode cX10_rename 55 = .ok (.aload_n 0, 1) := by decide +kernel
theorem dX10_rename_56 : decode cX10_rename 56 = .ok (.getfield 75, 3) := by decide +kernel
theorem dX10_rename_59 : decode cX10_rename 59 = .ok (.iload_n 1, 1) := by decide +kernel
theorem dX10_rename_60 : decode cX10_rename 60 = .ok (.iload 8, 2) := by decide +kernel
theorem dX10_rename_62 : decode cX10_rename 62 = .ok (.invokevirtual 186, 3) := by decide +kernel
theorem dX10_rename_65 : decode cX10_rename 65 = .ok (.istore 9, 2) := by decide +kernel
theorem dX10_rename_67 : decode cX10_rename 67 = .ok (.iload_n 1, 1) := by decide +kernel
theorem dX10_rename_68 : decode cX10_rename 68 = .ok (.iload 4, 2) := by decide +kernel
theorem dX10_rename_70 : decode cX10_rename 70 = .ok (.if_icmp .ne 13, 3) := by decide +kernel
theorem dX10_rename_73 : decode cX10_rename 73 = .ok (.lload_n 2, 1) := by decide +kernel
theorem dX10_rename_74 : decode cX10_rename 74 = .ok (.lload 5, 2) := by decide +kernel
theorem dX10_rename_76 : decode cX10_rename 76 = .ok (.lcmp, 1) := by decide +kernel
theorem dX10_rename_77 : decode cX10_rename 77 = .ok (.ifCond .ne 6, 3) := by decide +kernel
theorem dX10_rename_80 : decode cX10_rename 80 = .ok (.iload 9, 2) := by decide +kernel
theorem dX10_rename_82 : decode cX10_rename 82 = .ok (.ireturn, 1) := by decide +kernel
theorem dX10_rename_83 : decode cX10_rename 83 = .ok (.aload_n 0, 1) := by decide +kernel
theorem dX10_rename_84 : decode cX10_rename 84 = .ok (.getfield 75, 3) := by decide +kernel
theorem dX10_rename_87 : decode cX10_rename 87 = .ok (.iload 4, 2) := by decide +kernel
theorem dX10_rename_89 : decode cX10_rename 89 = .ok (.lload 5, 2) := by decide +kernel
theorem dX10_rename_91 : decode cX10_rename 91 = .ok (.invokevirtual 151, 3) := by decide +kernel
theorem dX10_rename_94 : decode cX10_rename 94 = .ok (.istore 10, 2) := by decide +kernel
theorem dX10_rename_96 : decode cX10_rename 96 = .ok (.aload_n 0, 1) := by decide +kernel
theorem dX10_rename_97 : decode cX10_rename 97 = .ok (.iload 9, 2) := by decide +kernel
theorem dX10_rename_99 : decode cX10_rename 99 = .ok (.iload_n 1, 1) := by decide +kernel
theorem dX10_rename_100 : decode cX10_rename 100 = .ok (.iload 4, 2) := by decide +kernel
theorem dX10_rename_102 : decode cX10_rename 102 = .ok (.iload 10, 2) := by decide +kernel
theorem dX10_rename_104 : decode cX10_rename 104 = .ok (.invokevirtual 202, 3) := by decide +kernel
theorem dX10_rename_107 : decode cX10_rename 107 = .ok (.istore 7, 2) := by decide +kernel
theorem dX10_rename_109 : decode cX10_rename 109 = .ok (.iload 7, 2) := by decide +kernel
theorem dX10_rename_111 : decode cX10_rename 111 = .ok (.ifCond .eq 6, 3) := by decide +kernel
theorem dX10_rename_114 : decode cX10_rename 114 = .ok (.iload 7, 2) := by decide +kernel
theorem dX10_rename_116 : decode cX10_rename 116 = .ok (.ireturn, 1) := by decide +kernel
theorem dX10_rename_117 : decode cX10_rename 117 = .ok (.iload 10, 2) := by decide +kernel
theorem dX10_rename_119 : decode cX10_rename 119 = .ok (.iconst (-1), 1) := by decide +kernel
theorem dX10_rename_120 : decode cX10_rename 120 = .ok (.if_icmp .eq 37, 3) := by decide +kernel
theorem dX10_rename_123 : decode cX10_rename 123 = .ok (.aload_n 0, 1) := by decide +kernel
theorem dX10_rename_124 : decode cX10_rename 124 = .ok (.getfield 75, 3) := by decide +kernel
theorem dX10_rename_127 : decode cX10_rename 127 = .ok (.iload 4, 2) := by decide +kernel
theorem dX10_rename_129 : decode cX10_rename 129 = .ok (.iload 10, 2) := by decide +kernel
theorem dX10_rename_131 : decode cX10_rename 131 = .ok (.invokevirtual 186, 3) := by decide +kernel
theorem dX10_rename_134 : decode cX10_rename 134 = .ok (.istore 11, 2) := by decide +kernel
theorem dX10_rename_136 : decode cX10_rename 136 = .ok (.aload_n 0, 1) := by decide +kernel
theorem dX10_rename_137 : decode cX10_rename 137 = .ok (.getfield 75, 3) := by decide +kernel
theorem dX10_rename_140 : decode cX10_rename 140 = .ok (.iload 4, 2) := by decide +kernel
theorem dX10_rename_142 : decode cX10_rename 142 = .ok (.iload 10, 2) := by decide +kernel
theorem dX10_rename_144 : decode cX10_rename 144 = .ok (.invokevirtual 192, 3) := by decide +kernel
theorem dX10_rename_147 : decode cX10_rename 147 = .ok (.aload_n 0, 1) := by decide +kernel
theorem dX10_rename_148 : decode cX10_rename 148 = .ok (.getfield 91, 3) := by decide +kernel
theorem dX10_rename_151 : decode cX10_rename 151 = .ok (.iload 11, 2) := by decide +kernel
theorem dX10_rename_153 : decode cX10_rename 153 = .ok (.invokevirtual 195, 3) := by decide +kernel
theorem dX10_rename_156 : decode cX10_rename 156 = .ok (.pop, 1) := by decide +kernel
theorem dX10_rename_157 : decode cX10_rename 157 = .ok (.aload_n 0, 1) := by decide +kernel
theorem dX10_rename_158 : decode cX10_rename 158 = .ok (.getfield 75, 3) := by decide +kernel
theorem dX10_rename_161 : decode cX10_rename 161 = .ok (.iload_n 1, 1) := by decide +kernel
theorem dX10_rename_162 : decode cX10_rename 162 = .ok (.iload 8, 2) := by decide +kernel
theorem dX10_rename_164 : decode cX10_rename 164 = .ok (.invokevirtual 192, 3) := by decide +kernel
theorem dX10_rename_167 : decode cX10_rename 167 = .ok (.aload_n 0, 1) := by decide +kernel
theorem dX10_rename_168 : decode cX10_rename 168 = .ok (.getfield 75, 3) := by decide +kernel
theorem dX10_rename_171 : decode cX10_rename 171 = .ok (.iload 4, 2) := by decide +kernel
theorem dX10_rename_173 : decode cX10_rename 173 = .ok (.lload 5, 2) := by decide +kernel
theorem dX10_rename_175 : decode cX10_rename 175 = .ok (.iload 9, 2) := by decide +kernel
theorem dX10_rename_177 : decode cX10_rename 177 = .ok (.invokevirtual 165, 3) := by decide +kernel
theorem dX10_rename_180 : decode cX10_rename 180 = .ok (.iload_n 1, 1) := by decide +kernel
theorem dX10_rename_181 : decode cX10_rename 181 = .ok (.iload 4, 2) := by decide +kernel
theorem dX10_rename_183 : decode cX10_rename 183 = .ok (.if_icmp .eq 27, 3) := by decide +kernel
theorem dX10_rename_186 : decode cX10_rename 186 = .ok (.aload_n 0, 1) := by decide +kernel
theorem dX10_rename_187 : decode cX10_rename 187 = .ok (.getfield 71, 3) := by decide +kernel
theorem dX10_rename_190 : decode cX10_rename 190 = .ok (.iload 9, 2) := by decide +kernel
theorem dX10_rename_192 : decode cX10_rename 192 = .ok (.invokevirtual 173, 3) := by decide +kernel
theorem dX10_rename_195 : decode cX10_rename 195 = .ok (.iconst 2, 1) := by decide +kernel
theorem dX10_rename_196 : decode cX10_rename 196 = .ok (.if_icmp .ne 14, 3) := by decide +kernel
theorem dX10_rename_199 : decode cX10_rename 199 = .ok (.aload_n 0, 1) := by decide +kernel
theorem dX10_rename_200 : decode cX10_rename 200 = .ok (.getfield 71, 3) := by decide +kernel
theorem dX10_rename_203 : decode cX10_rename 203 = .ok (.iload 9, 2) := by decide +kernel
theorem dX10_rename_205 : decode cX10_rename 205 = .ok (.iload 4, 2) := by decide +kernel
theorem dX10_rename_207 : decode cX10_rename 207 = .ok (.invokevirtual 134, 3) := by decide +kernel
theorem dX10_rename_210 : decode cX10_rename 210 = .ok (.iload 9, 2) := by decide +kernel
theorem dX10_rename_212 : decode cX10_rename 212 = .ok (.ireturn, 1) := by decide +kernel
theorem dX10_find_0 : decode cX10_find 0 = .ok (.aload_n 0, 1) := by decide +kernel
theorem dX10_find_1 : decode cX10_find 1 = .ok (.getfield 53, 3) := by decide +kernel
theorem dX10_find_4 : decode cX10_find 4 = .ok (.getfield 122, 3) := by decide +kernel
theorem dX10_find_7 : decode cX10_find 7 = .ok (.ifCond .ne 6, 3) := by decide +kernel
theorem dX10_find_10 : decode cX10_find 10 = .ok (.bipush (-99), 2) := by decide +kernel
theorem dX10_find_12 : decode cX10_find 12 = .ok (.ireturn, 1) := by decide +kernel
theorem dX10_find_13 : decode cX10_find 13 = .ok (.aload_n 0, 1) := by decide +kernel
theorem dX10_find_14 : decode cX10_find 14 = .ok (.getfield 71, 3) := by decide +kernel
theorem dX10_find_17 : decode cX10_find 17 = .ok (.iload_n 1, 1) := by decide +kernel
theorem dX10_find_18 : decode cX10_find 18 = .ok (.invokevirtual 173, 3) := by decide +kernel
theorem dX10_find_21 : decode cX10_find 21 = .ok (.iconst 2, 1) := by decide +kernel
theorem dX10_find_22 : decode cX10_find 22 = .ok (.if_icmp .eq 6, 3) := by decide +kernel
theorem dX10_find_25 : decode cX10_find 25 = .ok (.bipush (-10), 2) := by decide +kernel
theorem dX10_find_27 : decode cX10_find 27 = .ok (.ireturn, 1) := by decide +kernel
theorem dX10_find_28 : decode cX10_find 28 = .ok (.lload_n 2, 1) := by decide +kernel
theorem dX10_find_29 : decode cX10_find 29 = .ok (.invokestatic 206, 3) := by decide +kernel
theorem dX10_find_32 : decode cX10_find 32 = .ok (.ifCond .ne 6, 3) := by decide +kernel
theorem dX10_find_35 : decode cX10_find 35 = .ok (.bipush (-11), 2) := by decide +kernel
theorem dX10_find_37 : decode cX10_find 37 = .ok (.ireturn, 1) := by decide +kernel
theorem dX10_find_38 : decode cX10_find 38 = .ok (.aload_n 0, 1) := by decide +kernel
theorem dX10_find_39 : decode cX10_find 39 = .ok (.getfield 71, 3) := by decide +kernel
theorem dX10_find_42 : decode cX10_find 42 = .ok (.iload_n 1, 1) := by decide +kernel
theorem dX10_find_43 : decode cX10_find 43 = .ok (.iconst 1, 1) := by decide +kernel
theorem dX10_find_44 : decode cX10_find 44 = .ok (.aload_n 0, 1) := by decide +kernel
theorem dX10_find_45 : decode cX10_find 45 = .ok (.getfield 113, 3) := by decide +kernel
theorem dX10_find_48 : decode cX10_find 48 = .ok (.invokevirtual 176, 3) := by decide +kernel
theorem dX10_find_51 : decode cX10_find 51 = .ok (.ifCond .ne 6, 3) := by decide +kernel
theorem dX10_find_54 : decode cX10_find 54 = .ok (.bipush (-20), 2) := by decide +kernel
theorem dX10_find_56 : decode cX10_find 56 = .ok (.ireturn, 1) := by decide +kernel
theorem dX10_find_57 : decode cX10_find 57 = .ok (.aload_n 0, 1) := by decide +kernel
theorem dX10_find_58 : decode cX10_find 58 = .ok (.getfield 75, 3) := by decide +kernel
theorem dX10_find_61 : decode cX10_find 61 = .ok (.iload_n 1, 1) := by decide +kernel
theorem dX10_find_62 : decode cX10_find 62 = .ok (.lload_n 2, 1) := by decide +kernel
theorem dX10_find_63 : decode cX10_find 63 = .ok (.invokevirtual 151, 3) := by decide +kernel
theorem dX10_find_66 : decode cX10_find 66 = .ok (.istore 4, 2) := by decide +kernel
theorem dX10_find_68 : decode cX10_find 68 = .ok (.iload 4, 2) := by decide +kernel
theorem dX10_find_70 : decode cX10_find 70 = .ok (.iconst (-1), 1) := by decide +kernel
theorem dX10_find_71 : decode cX10_find 71 = .ok (.if_icmp .ne 8, 3) := by decide +kernel
theorem dX10_find_74 : decode cX10_find 74 = .ok (.bipush (-12), 2) := by decide +kernel
theorem dX10_find_76 : decode cX10_find 76 = .ok (.goto 13, 3) := by decide +kernel
theorem dX10_find_79 : decode cX10_find 79 = .ok (.aload_n 0, 1) := by decide +kernel
theorem dX10_find_80 : decode cX10_find 80 = .ok (.getfield 75, 3) := by decide +kernel
theorem dX10_find_83 : decode cX10_find 83 = .ok (.iload_n 1, 1) := by decide +kernel
theorem dX10_find_84 : decode cX10_find 84 = .ok (.iload 4, 2) := by decide +kernel
theorem dX10_find_86 : decode cX10_find 86 = .ok (.invokevirtual 186, 3) := by decide +kernel
theorem dX10_find_89 : decode cX10_find 89 = .ok (.ireturn, 1) := by decide +kernel
theorem dX9_byteOf_0 : decode cX9_byteOf 0 = .ok (.iload_n 1, 1) := by decide +kernel
theorem dX9_byteOf_1 : decode cX9_byteOf 1 = .ok (.iconst (-1), 1) := by decide +kernel
theorem dX9_byteOf_2 : decode cX9_byteOf 2 = .ok (.if_icmp .ne 14, 3) := by decide +kernel
theorem dX9_byteOf_5 : decode cX9_byteOf 5 = .ok (.aload_n 0, 1) := by decide +kernel
theorem dX9_byteOf_6 : decode cX9_byteOf 6 = .ok (.getfield 23, 3) := by decide +kernel
theorem dX9_byteOf_9 : decode cX9_byteOf 9 = .ok (.iload_n 2, 1) := by decide +kernel
theorem dX9_byteOf_10 : decode cX9_byteOf 10 = .ok (.invokevirtual 59, 3) := by decide +kernel
theorem dX9_byteOf_13 : decode cX9_byteOf 13 = .ok (.goto 22, 3) := by decide +kernel
theorem dX9_byteOf_16 : decode cX9_byteOf 16 = .ok (.aload_n 0, 1) := by decide +kernel
theorem dX9_byteOf_17 : decode cX9_byteOf 17 = .ok (.getfield 9, 3) := by decide +kernel
theorem dX9_byteOf_20 : decode cX9_byteOf 20 = .ok (.aload_n 0, 1) := by decide +kernel
theorem dX9_byteOf_21 : decode cX9_byteOf 21 = .ok (.getfield 15, 3) := by decide +kernel
theorem dX9_byteOf_24 : decode cX9_byteOf 24 = .ok (.iload_n 1, 1) := by decide +kernel
theorem dX9_byteOf_25 : decode cX9_byteOf 25 = .ok (.invokevirtual 63, 3) := by decide +kernel
theorem dX9_byteOf_28 : decode cX9_byteOf 28 = .ok (.bipush 24, 2) := by decide +kernel
theorem dX9_byteOf_30 : decode cX9_byteOf 30 = .ok (.iload_n 2, 1) := by decide +kernel
theorem dX9_byteOf_31 : decode cX9_byteOf 31 = .ok (.iadd, 1) := by decide +kernel
theorem dX9_byteOf_32 : decode cX9_byteOf 32 = .ok (.invokevirtual 68, 3) := by decide +kernel
theorem dX9_byteOf_35 : decode cX9_byteOf 35 = .ok (.ireturn, 1) := by decide +kernel
theorem dX9_begin_0 : decode cX9_begin 0 = .ok (.aload_n 0, 1) := by decide +kernel
theorem dX9_begin_1 : decode cX9_begin 1 = .ok (.getfield 34, 3) := by decide +kernel
theorem dX9_begin_4 : decode cX9_begin 4 = .ok (.aload_n 0, 1) := by decide +kernel
theorem dX9_begin_5 : decode cX9_begin 5 = .ok (.getfield 27, 3) := by decide +kernel
theorem dX9_begin_8 : decode cX9_begin 8 = .ok (.arraylength, 1) := by decide +kernel
theorem dX9_begin_9 : decode cX9_begin 9 = .ok (.if_icmp .ge 45, 3) := by decide +kernel
theorem dX9_begin_12 : decode cX9_begin 12 = .ok (.aload_n 0, 1) := by decide +kernel
theorem dX9_begin_13 : decode cX9_begin 13 = .ok (.getfield 34, 3) := by decide +kernel
theorem dX9_begin_16 : decode cX9_begin 16 = .ok (.aload_n 0, 1) := by decide +kernel
theorem dX9_begin_17 : decode cX9_begin 17 = .ok (.getfield 31, 3) := by decide +kernel
theorem dX9_begin_20 : decode cX9_begin 20 = .ok (.arraylength, 1) := by decide +kernel
theorem dX9_begin_21 : decode cX9_begin 21 = .ok (.if_icmp .ge 33, 3) := by decide +kernel
theorem dX9_begin_24 : decode cX9_begin 24 = .ok (.aload_n 0, 1) := by decide +kernel
theorem dX9_begin_25 : decode cX9_begin 25 = .ok (.getfield 27, 3) := by decide +kernel
theorem dX9_begin_28 : decode cX9_begin 28 = .ok (.aload_n 0, 1) := by decide +kernel
theorem dX9_begin_29 : decode cX9_begin 29 = .ok (.getfield 34, 3) := by decide +kernel
theorem dX9_begin_32 : decode cX9_begin 32 = .ok (.iload_n 1, 1) := by decide +kernel
theorem dX9_begin_33 : decode cX9_begin 33 = .ok (.iastore, 1) := by decide +kernel
theorem dX9_begin_34 : decode cX9_begin 34 = .ok (.aload_n 0, 1) := by decide +kernel
theorem dX9_begin_35 : decode cX9_begin 35 = .ok (.getfield 31, 3) := by decide +kernel
theorem dX9_begin_38 : decode cX9_begin 38 = .ok (.aload_n 0, 1) := by decide +kernel
theorem dX9_begin_39 : decode cX9_begin 39 = .ok (.getfield 34, 3) := by decide +kernel
theorem dX9_begin_42 : decode cX9_begin 42 = .ok (.iconst 0, 1) := by decide +kernel
theorem dX9_begin_43 : decode cX9_begin 43 = .ok (.iastore, 1) := by decide +kernel
theorem dX9_begin_44 : decode cX9_begin 44 = .ok (.aload_n 0, 1) := by decide +kernel
theorem dX9_begin_45 : decode cX9_begin 45 = .ok (.dup, 1) := by decide +kernel
theorem dX9_begin_46 : decode cX9_begin 46 = .ok (.getfield 34, 3) := by decide +kernel
theorem dX9_begin_49 : decode cX9_begin 49 = .ok (.iconst 1, 1) := by decide +kernel
theorem dX9_begin_50 : decode cX9_begin 50 = .ok (.iadd, 1) := by decide +kernel
theorem dX9_begin_51 : decode cX9_begin 51 = .ok (.putfield 34, 3) := by decide +kernel
theorem dX9_begin_54 : decode cX9_begin 54 = .ok (.aload_n 0, 1) := by decide +kernel
theorem dX9_begin_55 : decode cX9_begin 55 = .ok (.iload_n 1, 1) := by decide +kernel
theorem dX9_begin_56 : decode cX9_begin 56 = .ok (.iconst 0, 1) := by decide +kernel
theorem dX9_begin_57 : decode cX9_begin 57 = .ok (.invokevirtual 55, 3) := by decide +kernel
theorem dX9_begin_60 : decode cX9_begin 60 = .ok (.bipush 47, 2) := by decide +kernel
theorem dX9_begin_62 : decode cX9_begin 62 = .ok (.if_icmp .ne 8, 3) := by decide +kernel
theorem dX9_begin_65 : decode cX9_begin 65 = .ok (.aload_n 0, 1) := by decide +kernel
theorem dX9_begin_66 : decode cX9_begin 66 = .ok (.iconst 0, 1) := by decide +kernel
theorem dX9_begin_67 : decode cX9_begin 67 = .ok (.putfield 41, 3) := by decide +kernel
theorem dX9_begin_70 : decode cX9_begin 70 = .ok (.return_, 1) := by decide +kernel
theorem dX9_nextPart_0 : decode cX9_nextPart 0 = .ok (.aload_n 0, 1) := by decide +kernel
theorem dX9_nextPart_1 : decode cX9_nextPart 1 = .ok (.getfield 34, 3) := by decide +kernel
theorem dX9_nextPart_4 : decode cX9_nextPart 4 = .ok (.iconst 1, 1) := by decide +kernel
theorem dX9_nextPart_5 : decode cX9_nextPart 5 = .ok (.isub, 1) := by decide +kernel
theorem dX9_nextPart_6 : decode cX9_nextPart 6 = .ok (.istore_n 1, 1) := by decide +kernel
theorem dX9_nextPart_7 : decode cX9_nextPart 7 = .ok (.iload_n 1, 1) := by decide +kernel
theorem dX9_nextPart_8 : decode cX9_nextPart 8 = .ok (.ifCond .lt 21, 3) := by decide +kernel
theorem dX9_nextPart_11 : decode cX9_nextPart 11 = .ok (.iload_n 1, 1) := by decide +kernel
theorem dX9_nextPart_12 : decode cX9_nextPart 12 = .ok (.aload_n 0, 1) := by decide +kernel
theorem dX9_nextPart_13 : decode cX9_nextPart 13 = .ok (.getfield 27, 3) := by decide +kernel
theorem dX9_nextPart_16 : decode cX9_nextPart 16 = .ok (.arraylength, 1) := by decide +kernel
theorem dX9_nextPart_17 : decode cX9_nextPart 17 = .ok (.if_icmp .ge 12, 3) := by decide +kernel
theorem dX9_nextPart_20 : decode cX9_nextPart 20 = .ok (.iload_n 1, 1) := by decide +kernel
theorem dX9_nextPart_21 : decode cX9_nextPart 21 = .ok (.aload_n 0, 1) := by decide +kernel
theorem dX9_nextPart_22 : decode cX9_nextPart 22 = .ok (.getfield 31, 3) := by decide +kernel
theorem dX9_nextPart_25 : decode cX9_nextPart 25 = .ok (.arraylength, 1) := by decide +kernel
theorem dX9_nextPart_26 : decode cX9_nextPart 26 = .ok (.if_icmp .lt 4, 3) := by decide +kernel
theorem dX9_nextPart_29 : decode cX9_nextPart 29 = .ok (.return_, 1) := by decide +kernel
theorem dX9_nextPart_30 : decode cX9_nextPart 30 = .ok (.aload_n 0, 1) := by decide +kernel
theorem dX9_nextPart_31 : decode cX9_nextPart 31 = .ok (.aload_n 0, 1) := by decide +kernel
theorem dX9_nextPart_32 : decode cX9_nextPart 32 = .ok (.getfield 27, 3) := by decide +kernel
theorem dX9_nextPart_35 : decode cX9_nextPart 35 = .ok (.iload_n 1, 1) := by decide +kernel
theorem dX9_nextPart_36 : decode cX9_nextPart 36 = .ok (.iaload, 1) := by decide +kernel
theorem dX9_nextPart_37 : decode cX9_nextPart 37 = .ok (.putfield 73, 3) := by decide +kernel
theorem dX9_nextPart_40 : decode cX9_nextPart 40 = .ok (.aload_n 0, 1) := by decide +kernel
theorem dX9_nextPart_41 : decode cX9_nextPart 41 = .ok (.aload_n 0, 1) := by decide +kernel
theorem dX9_nextPart_42 : decode cX9_nextPart 42 = .ok (.getfield 31, 3) := by decide +kernel
theorem dX9_nextPart_45 : decode cX9_nextPart 45 = .ok (.iload_n 1, 1) := by decide +kernel
theorem dX9_nextPart_46 : decode cX9_nextPart 46 = .ok (.iaload, 1) := by decide +kernel
theorem dX9_nextPart_47 : decode cX9_nextPart 47 = .ok (.putfield 76, 3) := by decide +kernel
theorem dX9_nextPart_50 : decode cX9_nextPart 50 = .ok (.aload_n 0, 1) := by decide +kernel
theorem dX9_nextPart_51 : decode cX9_nextPart 51 = .ok (.getfield 73, 3) := by decide +kernel
theorem dX9_nextPart_54 : decode cX9_nextPart 54 = .ok (.iconst (-1), 1) := by decide +kernel
theorem dX9_nextPart_55 : decode cX9_nextPart 55 = .ok (.if_icmp .ne 13, 3) := by decide +kernel
theorem dX9_nextPart_58 : decode cX9_nextPart 58 = .ok (.aload_n 0, 1) := by decide +kernel
theorem dX9_nextPart_59 : decode cX9_nextPart 59 = .ok (.getfield 23, 3) := by decide +kernel
theorem dX9_nextPart_62 : decode cX9_nextPart 62 = .ok (.getfield 79, 3) := by decide +kernel
theorem dX9_nextPart_65 : decode cX9_nextPart 65 = .ok (.goto 14, 3) := by decide +kernel
theorem dX9_nextPart_68 : decode cX9_nextPart 68 = .ok (.aload_n 0, 1) := by decide +kernel
theorem dX9_nextPart_69 : decode cX9_nextPart 69 = .ok (.getfield 15, 3) := by decide +kernel
theorem dX9_nextPart_72 : decode cX9_nextPart 72 = .ok (.aload_n 0, 1) := by decide +kernel
theorem dX9_nextPart_73 : decode cX9_nextPart 73 = .ok (.getfield 73, 3) := by decide +kernel
theorem dX9_nextPart_76 : decode cX9_nextPart 76 = .ok (.invokevirtual 82, 3) := by decide +kernel
theorem dX9_nextPart_79 : decode cX9_nextPart 79 = .ok (.istore_n 2, 1) := by decide +kernel
theorem dX9_nextPart_80 : decode cX9_nextPart 80 = .ok (.aload_n 0, 1) := by decide +kernel
theorem dX9_nextPart_81 : decode cX9_nextPart 81 = .ok (.aload_n 0, 1) := by decide +kernel
theorem dX9_nextPart_82 : decode cX9_nextPart 82 = .ok (.getfield 76, 3) := by decide +kernel
theorem dX9_nextPart_85 : decode cX9_nextPart 85 = .ok (.putfield 85, 3) := by decide +kernel
theorem dX9_nextPart_88 : decode cX9_nextPart 88 = .ok (.aload_n 0, 1) := by decide +kernel
theorem dX9_nextPart_89 : decode cX9_nextPart 89 = .ok (.getfield 85, 3) := by decide +kernel
theorem dX9_nextPart_92 : decode cX9_nextPart 92 = .ok (.iload_n 2, 1) := by decide +kernel
theorem dX9_nextPart_93 : decode cX9_nextPart 93 = .ok (.if_icmp .ge 33, 3) := by decide +kernel
theorem dX9_nextPart_96 : decode cX9_nextPart 96 = .ok (.aload_n 0, 1) := by decide +kernel
theorem dX9_nextPart_97 : decode cX9_nextPart 97 = .ok (.aload_n 0, 1) := by decide +kernel
theorem dX9_nextPart_98 : decode cX9_nextPart 98 = .ok (.getfield 73, 3) := by decide +kernel
theorem dX9_nextPart_101 : decode cX9_nextPart 101 = .ok (.aload_n 0, 1) := by decide +kernel
theorem dX9_nextPart_102 : decode cX9_nextPart 102 = .ok (.getfield 85, 3) := by decide +kernel
theorem dX9_nextPart_105 : decode cX9_nextPart 105 = .ok (.invokevirtual 55, 3) := by decide +kernel
theorem dX9_nextPart_108 : decode cX9_nextPart 108 = .ok (.bipush 47, 2) := by decide +kernel
theorem dX9_nextPart_110 : decode cX9_nextPart 110 = .ok (.if_icmp .eq 16, 3) := by decide +kernel
theorem dX9_nextPart_113 : decode cX9_nextPart 113 = .ok (.aload_n 0, 1) := by decide +kernel
theorem dX9_nextPart_114 : decode cX9_nextPart 114 = .ok (.dup, 1) := by decide +kernel
theorem dX9_nextPart_115 : decode cX9_nextPart 115 = .ok (.getfield 85, 3) := by decide +kernel
theorem dX9_nextPart_118 : decode cX9_nextPart 118 = .ok (.iconst 1, 1) := by decide +kernel
theorem dX9_nextPart_119 : decode cX9_nextPart 119 = .ok (.iadd, 1) := by decide +kernel
theorem dX9_nextPart_120 : decode cX9_nextPart 120 = .ok (.putfield 85, 3) := by decide +kernel
theorem dX9_nextPart_123 : decode cX9_nextPart 123 = .ok (.goto (-35), 3) := by decide +kernel
theorem dX9_nextPart_126 : decode cX9_nextPart 126 = .ok (.aload_n 0, 1) := by decide +kernel
theorem dX9_nextPart_127 : decode cX9_nextPart 127 = .ok (.getfield 31, 3) := by decide +kernel
theorem dX9_nextPart_130 : decode cX9_nextPart 130 = .ok (.iload_n 1, 1) := by decide +kernel
theorem dX9_nextPart_131 : decode cX9_nextPart 131 = .ok (.aload_n 0, 1) := by decide +kernel
theorem dX9_nextPart_132 : decode cX9_nextPart 132 = .ok (.getfield 85, 3) := by decide +kernel
theorem dX9_nextPart_135 : decode cX9_nextPart 135 = .ok (.iconst 1, 1) := by decide +kernel
theorem dX9_nextPart_136 : decode cX9_nextPart 136 = .ok (.iadd, 1) := by decide +kernel
theorem dX9_nextPart_137 : decode cX9_nextPart 137 = .ok (.iastore, 1) := by decide +kernel
theorem dX9_nextPart_138 : decode cX9_nextPart 138 = .ok (.aload_n 0, 1) := by decide +kernel
theorem dX9_nextPart_139 : decode cX9_nextPart 139 = .ok (.getfield 85, 3) := by decide +kernel
theorem dX9_nextPart_142 : decode cX9_nextPart 142 = .ok (.iload_n 2, 1) := by decide +kernel
theorem dX9_nextPart_143 : decode cX9_nextPart 143 = .ok (.if_icmp .lt 8, 3) := by decide +kernel
theorem dX9_nextPart_146 : decode cX9_nextPart 146 = .ok (.aload_n 0, 1) := by decide +kernel
theorem dX9_nextPart_147 : decode cX9_nextPart 147 = .ok (.iload_n 1, 1) := by decide +kernel
theorem dX9_nextPart_148 : decode cX9_nextPart 148 = .ok (.putfield 34, 3) := by decide +kernel
theorem dX9_nextPart_151 : decode cX9_nextPart 151 = .ok (.return_, 1) := by decide +kernel
theorem dX9_partName_0 : decode cX9_partName 0 = .ok (.aload_n 0, 1) := by decide +kernel
theorem dX9_partName_1 : decode cX9_partName 1 = .ok (.getfield 85, 3) := by decide +kernel
theorem dX9_partName_4 : decode cX9_partName 4 = .ok (.aload_n 0, 1) := by decide +kernel
theorem dX9_partName_5 : decode cX9_partName 5 = .ok (.getfield 76, 3) := by decide +kernel
theorem dX9_partName_8 : decode cX9_partName 8 = .ok (.isub, 1) := by decide +kernel
theorem dX9_partName_9 : decode cX9_partName 9 = .ok (.bipush 8, 2) := by decide +kernel
theorem dX9_partName_11 : decode cX9_partName 11 = .ok (.if_icmp .le 5, 3) := by decide +kernel
theorem dX9_partName_14 : decode cX9_partName 14 = .ok (.lconst 0, 1) := by decide +kernel
theorem dX9_partName_15 : decode cX9_partName 15 = .ok (.lreturn, 1) := by decide +kernel
theorem dX9_partName_16 : decode cX9_partName 16 = .ok (.lconst 0, 1) := by decide +kernel
theorem dX9_partName_17 : decode cX9_partName 17 = .ok (.lstore_n 1, 1) := by decide +kernel
theorem dX9_partName_18 : decode cX9_partName 18 = .ok (.aload_n 0, 1) := by decide +kernel
theorem dX9_partName_19 : decode cX9_partName 19 = .ok (.getfield 76, 3) := by decide +kernel
theorem dX9_partName_22 : decode cX9_partName 22 = .ok (.istore_n 3, 1) := by decide +kernel
theorem dX9_partName_23 : decode cX9_partName 23 = .ok (.iload_n 3, 1) := by decide +kernel
theorem dX9_partName_24 : decode cX9_partName 24 = .ok (.aload_n 0, 1) := by decide +kernel
theorem dX9_partName_25 : decode cX9_partName 25 = .ok (.getfield 85, 3) := by decide +kernel
theorem dX9_partName_28 : decode cX9_partName 28 = .ok (.if_icmp .ge 46, 3) := by decide +kernel
theorem dX9_partName_31 : decode cX9_partName 31 = .ok (.aload_n 0, 1) := by decide +kernel
theorem dX9_partName_32 : decode cX9_partName 32 = .ok (.aload_n 0, 1) := by decide +kernel
theorem dX9_partName_33 : decode cX9_partName 33 = .ok (.getfield 73, 3) := by decide +kernel
theorem dX9_partName_36 : decode cX9_partName 36 = .ok (.iload_n 3, 1) := by decide +kernel
theorem dX9_partName_37 : decode cX9_partName 37 = .ok (.invokevirtual 55, 3) := by decide +kernel
theorem dX9_partName_40 : decode cX9_partName 40 = .ok (.istore 4, 2) := by decide +kernel
theorem dX9_partName_42 : decode cX9_partName 42 = .ok (.iload 4, 2) := by decide +kernel
theorem dX9_partName_44 : decode cX9_partName 44 = .ok (.invokestatic 111, 3) := by decide +kernel
theorem dX9_partName_47 : decode cX9_partName 47 = .ok (.ifCond .ne 5, 3) := by decide +kernel
theorem dX9_partName_50 : decode cX9_partName 50 = .ok (.lconst 0, 1) := by decide +kernel
theorem dX9_partName_51 : decode cX9_partName 51 = .ok (.lreturn, 1) := by decide +kernel
theorem dX9_partName_52 : decode cX9_partName 52 = .ok (.lload_n 1, 1) := by decide +kernel
theorem dX9_partName_53 : decode cX9_partName 53 = .ok (.iload 4, 2) := by decide +kernel
theorem dX9_partName_55 : decode cX9_partName 55 = .ok (.i2l, 1) := by decide +kernel
theorem dX9_partName_56 : decode cX9_partName 56 = .ok (.bipush 8, 2) := by decide +kernel
theorem dX9_partName_58 : decode cX9_partName 58 = .ok (.iload_n 3, 1) := by decide +kernel
theorem dX9_partName_59 : decode cX9_partName 59 = .ok (.aload_n 0, 1) := by decide +kernel
theorem dX9_partName_60 : decode cX9_partName 60 = .ok (.getfield 76, 3) := by decide +kernel
theorem dX9_partName_63 : decode cX9_partName 63 = .ok (.isub, 1) := by decide +kernel
theorem dX9_partName_64 : decode cX9_partName 64 = .ok (.imul, 1) := by decide +kernel
theorem dX9_partName_65 : decode cX9_partName 65 = .ok (.lshl, 1) := by decide +kernel
theorem dX9_partName_66 : decode cX9_partName 66 = .ok (.lor, 1) := by decide +kernel
theorem dX9_partName_67 : decode cX9_partName 67 = .ok (.lstore_n 1, 1) := by decide +kernel
theorem dX9_partName_68 : decode cX9_partName 68 = .ok (.iinc 3 1, 3) := by decide +kernel
theorem dX9_partName_71 : decode cX9_partName 71 = .ok (.goto (-48), 3) := by decide +kernel
theorem dX9_partName_74 : decode cX9_partName 74 = .ok (.lload_n 1, 1) := by decide +kernel
theorem dX9_partName_75 : decode cX9_partName 75 = .ok (.lreturn, 1) := by decide +kernel
theorem dX9_goPart_0 : decode cX9_goPart 0 = .ok (.aload_n 0, 1) := by decide +kernel
theorem dX9_goPart_1 : decode cX9_goPart 1 = .ok (.getfield 15, 3) := by decide +kernel
theorem dX9_goPart_4 : decode cX9_goPart 4 = .ok (.aload_n 0, 1) := by decide +kernel
theorem dX9_goPart_5 : decode cX9_goPart 5 = .ok (.getfield 41, 3) := by decide +kernel
theorem dX9_goPart_8 : decode cX9_goPart 8 = .ok (.invokevirtual 88, 3) := by decide +kernel
theorem dX9_goPart_11 : decode cX9_goPart 11 = .ok (.iconst 2, 1) := by decide +kernel
theorem dX9_goPart_12 : decode cX9_goPart 12 = .ok (.if_icmp .eq 6, 3) := by decide +kernel
theorem dX9_goPart_15 : decode cX9_goPart 15 = .ok (.bipush (-12), 2) := by decide +kernel
theorem dX9_goPart_17 : decode cX9_goPart 17 = .ok (.ireturn, 1) := by decide +kernel
theorem dX9_goPart_18 : decode cX9_goPart 18 = .ok (.aload_n 0, 1) := by decide +kernel
theorem dX9_goPart_19 : decode cX9_goPart 19 = .ok (.getfield 85, 3) := by decide +kernel
theorem dX9_goPart_22 : decode cX9_goPart 22 = .ok (.aload_n 0, 1) := by decide +kernel
theorem dX9_goPart_23 : decode cX9_goPart 23 = .ok (.getfield 76, 3) := by decide +kernel
theorem dX9_goPart_26 : decode cX9_goPart 26 = .ok (.isub, 1) := by decide +kernel
theorem dX9_goPart_27 : decode cX9_goPart 27 = .ok (.iconst 1, 1) := by decide +kernel
theorem dX9_goPart_28 : decode cX9_goPart 28 = .ok (.if_icmp .lt 24, 3) := by decide +kernel
theorem dX9_goPart_31 : decode cX9_goPart 31 = .ok (.aload_n 0, 1) := by decide +kernel
theorem dX9_goPart_32 : decode cX9_goPart 32 = .ok (.aload_n 0, 1) := by decide +kernel
theorem dX9_goPart_33 : decode cX9_goPart 33 = .ok (.getfield 73, 3) := by decide +kernel
theorem dX9_goPart_36 : decode cX9_goPart 36 = .ok (.aload_n 0, 1) := by decide +kernel
theorem dX9_goPart_37 : decode cX9_goPart 37 = .ok (.getfield 76, 3) := by decide +kernel
theorem dX9_goPart_40 : decode cX9_goPart 40 = .ok (.invokevirtual 55, 3) := by decide +kernel
theorem dX9_goPart_43 : decode cX9_goPart 43 = .ok (.bipush 46, 2) := by decide +kernel
theorem dX9_goPart_45 : decode cX9_goPart 45 = .ok (.if_icmp .ne 7, 3) := by decide +kernel
theorem dX9_goPart_48 : decode cX9_goPart 48 = .ok (.iconst 1, 1) := by decide +kernel
theorem dX9_goPart_49 : decode cX9_goPart 49 = .ok (.goto 4, 3) := by decide +kernel
theorem dX9_goPart_52 : decode cX9_goPart 52 = .ok (.iconst 0, 1) := by decide +kernel
theorem dX9_goPart_53 : decode cX9_goPart 53 = .ok (.istore_n 2, 1) := by decide +kernel
theorem dX9_goPart_54 : decode cX9_goPart 54 = .ok (.aload_n 0, 1) := by decide +kernel
theorem dX9_goPart_55 : decode cX9_goPart 55 = .ok (.getfield 85, 3) := by decide +kernel
theorem dX9_goPart_58 : decode cX9_goPart 58 = .ok (.aload_n 0, 1) := by decide +kernel
theorem dX9_goPart_59 : decode cX9_goPart 59 = .ok (.getfield 76, 3) := by decide +kernel
theorem dX9_goPart_62 : decode cX9_goPart 62 = .ok (.if_icmp .eq 20, 3) := by decide +kernel
theorem dX9_goPart_65 : decode cX9_goPart 65 = .ok (.iload_n 2, 1) := by decide +kernel
theorem dX9_goPart_66 : decode cX9_goPart 66 = .ok (.ifCond .eq 18, 3) := by decide +kernel
theorem dX9_goPart_69 : decode cX9_goPart 69 = .ok (.aload_n 0, 1) := by decide +kernel
theorem dX9_goPart_70 : decode cX9_goPart 70 = .ok (.getfield 85, 3) := by decide +kernel
theorem dX9_goPart_73 : decode cX9_goPart 73 = .ok (.aload_n 0, 1) := by decide +kernel
theorem dX9_goPart_74 : decode cX9_goPart 74 = .ok (.getfield 76, 3) := by decide +kernel
theorem dX9_goPart_77 : decode cX9_goPart 77 = .ok (.isub, 1) := by decide +kernel
theorem dX9_goPart_78 : decode cX9_goPart 78 = .ok (.iconst 1, 1) := by decide +kernel
theorem dX9_goPart_79 : decode cX9_goPart 79 = .ok (.if_icmp .ne 5, 3) := by decide +kernel
theorem dX9_goPart_82 : decode cX9_goPart 82 = .ok (.iconst 0, 1) := by decide +kernel
theorem dX9_goPart_83 : decode cX9_goPart 83 = .ok (.ireturn, 1) := by decide +kernel
theorem dX9_goPart_84 : decode cX9_goPart 84 = .ok (.iload_n 2, 1) := by decide +kernel
theorem dX9_goPart_85 : decode cX9_goPart 85 = .ok (.ifCond .eq 52, 3) := by decide +kernel
theorem dX9_goPart_88 : decode cX9_goPart 88 = .ok (.aload_n 0, 1) := by decide +kernel
theorem dX9_goPart_89 : decode cX9_goPart 89 = .ok (.getfield 85, 3) := by decide +kernel
theorem dX9_goPart_92 : decode cX9_goPart 92 = .ok (.aload_n 0, 1) := by decide +kernel
theorem dX9_goPart_93 : decode cX9_goPart 93 = .ok (.getfield 76, 3) := by decide +kernel
theorem dX9_goPart_96 : decode cX9_goPart 96 = .ok (.isub, 1) := by decide +kernel
theorem dX9_goPart_97 : decode cX9_goPart 97 = .ok (.iconst 2, 1) := by decide +kernel
theorem dX9_goPart_98 : decode cX9_goPart 98 = .ok (.if_icmp .ne 39, 3) := by decide +kernel
theorem dX9_goPart_101 : decode cX9_goPart 101 = .ok (.aload_n 0, 1) := by decide +kernel
theorem dX9_goPart_102 : decode cX9_goPart 102 = .ok (.aload_n 0, 1) := by decide +kernel
theorem dX9_goPart_103 : decode cX9_goPart 103 = .ok (.getfield 73, 3) := by decide +kernel
theorem dX9_goPart_106 : decode cX9_goPart 106 = .ok (.aload_n 0, 1) := by decide +kernel
theorem dX9_goPart_107 : decode cX9_goPart 107 = .ok (.getfield 76, 3) := by decide +kernel
theorem dX9_goPart_110 : decode cX9_goPart 110 = .ok (.iconst 1, 1) := by decide +kernel
theorem dX9_goPart_111 : decode cX9_goPart 111 = .ok (.iadd, 1) := by decide +kernel
theorem dX9_goPart_112 : decode cX9_goPart 112 = .ok (.invokevirtual 55, 3) := by decide +kernel
theorem dX9_goPart_115 : decode cX9_goPart 115 = .ok (.bipush 46, 2) := by decide +kernel
theorem dX9_goPart_117 : decode cX9_goPart 117 = .ok (.if_icmp .ne 20, 3) := by decide +kernel
theorem dX9_goPart_120 : decode cX9_goPart 120 = .ok (.aload_n 0, 1) := by decide +kernel
theorem dX9_goPart_121 : decode cX9_goPart 121 = .ok (.aload_n 0, 1) := by decide +kernel
theorem dX9_goPart_122 : decode cX9_goPart 122 = .ok (.getfield 15, 3) := by decide +kernel
theorem dX9_goPart_125 : decode cX9_goPart 125 = .ok (.aload_n 0, 1) := by decide +kernel
theorem dX9_goPart_126 : decode cX9_goPart 126 = .ok (.getfield 41, 3) := by decide +kernel
theorem dX9_goPart_129 : decode cX9_goPart 129 = .ok (.invokevirtual 91, 3) := by decide +kernel
theorem dX9_goPart_132 : decode cX9_goPart 132 = .ok (.putfield 41, 3) := by decide +kernel
theorem dX9_goPart_135 : decode cX9_goPart 135 = .ok (.iconst 0, 1) := by decide +kernel
theorem dX9_goPart_136 : decode cX9_goPart 136 = .ok (.ireturn, 1) := by decide +kernel
theorem dX9_goPart_137 : decode cX9_goPart 137 = .ok (.aload_n 0, 1) := by decide +kernel
theorem dX9_goPart_138 : decode cX9_goPart 138 = .ok (.invokevirtual 94, 3) := by decide +kernel
theorem dX9_goPart_141 : decode cX9_goPart 141 = .ok (.lstore_n 3, 1) := by decide +kernel
theorem dX9_goPart_142 : decode cX9_goPart 142 = .ok (.lload_n 3, 1) := by decide +kernel
theorem dX9_goPart_143 : decode cX9_goPart 143 = .ok (.lconst 0, 1) := by decide +kernel
theorem dX9_goPart_144 : decode cX9_goPart 144 = .ok (.lcmp, 1) := by decide +kernel
theorem dX9_goPart_145 : decode cX9_goPart 145 = .ok (.ifCond .ne 6, 3) := by decide +kernel
theorem dX9_goPart_148 : decode cX9_goPart 148 = .ok (.bipush (-11), 2) := by decide +kernel
theorem dX9_goPart_150 : decode cX9_goPart 150 = .ok (.ireturn, 1) := by decide +kernel
theorem dX9_goPart_151 : decode cX9_goPart 151 = .ok (.aload_n 0, 1) := by decide +kernel
theorem dX9_goPart_152 : decode cX9_goPart 152 = .ok (.getfield 15, 3) := by decide +kernel
theorem dX9_goPart_155 : decode cX9_goPart 155 = .ok (.aload_n 0, 1) := by decide +kernel
theorem dX9_goPart_156 : decode cX9_goPart 156 = .ok (.getfield 41, 3) := by decide +kernel
theorem dX9_goPart_159 : decode cX9_goPart 159 = .ok (.iconst 1, 1) := by decide +kernel
theorem dX9_goPart_160 : decode cX9_goPart 160 = .ok (.iload_n 1, 1) := by decide +kernel
theorem dX9_goPart_161 : decode cX9_goPart 161 = .ok (.invokevirtual 98, 3) := by decide +kernel
theorem dX9_goPart_164 : decode cX9_goPart 164 = .ok (.ifCond .ne 6, 3) := by decide +kernel
theorem dX9_goPart_167 : decode cX9_goPart 167 = .ok (.bipush (-20), 2) := by decide +kernel
theorem dX9_goPart_169 : decode cX9_goPart 169 = .ok (.ireturn, 1) := by decide +kernel
theorem dX9_goPart_170 : decode cX9_goPart 170 = .ok (.aload_n 0, 1) := by decide +kernel
theorem dX9_goPart_171 : decode cX9_goPart 171 = .ok (.getfield 19, 3) := by decide +kernel
theorem dX9_goPart_174 : decode cX9_goPart 174 = .ok (.aload_n 0, 1) := by decide +kernel
theorem dX9_goPart_175 : decode cX9_goPart 175 = .ok (.getfield 41, 3) := by decide +kernel
theorem dX9_goPart_178 : decode cX9_goPart 178 = .ok (.lload_n 3, 1) := by decide +kernel
theorem dX9_goPart_179 : decode cX9_goPart 179 = .ok (.invokevirtual 102, 3) := by decide +kernel
theorem dX9_goPart_182 : decode cX9_goPart 182 = .ok (.istore 5, 2) := by decide +kernel
theorem dX9_goPart_184 : decode cX9_goPart 184 = .ok (.iload 5, 2) := by decide +kernel
theorem dX9_goPart_186 : decode cX9_goPart 186 = .ok (.iconst (-1), 1) := by decide +kernel
theorem dX9_goPart_187 : decode cX9_goPart 187 = .ok (.if_icmp .ne 6, 3) := by decide +kernel
theorem dX9_goPart_190 : decode cX9_goPart 190 = .ok (.bipush (-12), 2) := by decide +kernel
theorem dX9_goPart_192 : decode cX9_goPart 192 = .ok (.ireturn, 1) := by decide +kernel
theorem dX9_goPart_193 : decode cX9_goPart 193 = .ok (.aload_n 0, 1) := by decide +kernel
theorem dX9_goPart_194 : decode cX9_goPart 194 = .ok (.getfield 19, 3) := by decide +kernel
theorem dX9_goPart_197 : decode cX9_goPart 197 = .ok (.aload_n 0, 1) := by decide +kernel
theorem dX9_goPart_198 : decode cX9_goPart 198 = .ok (.getfield 41, 3) := by decide +kernel
theorem dX9_goPart_201 : decode cX9_goPart 201 = .ok (.iload 5, 2) := by decide +kernel
theorem dX9_goPart_203 : decode cX9_goPart 203 = .ok (.invokevirtual 108, 3) := by decide +kernel
theorem dX9_goPart_206 : decode cX9_goPart 206 = .ok (.istore 6, 2) := by decide +kernel
theorem dX9_goPart_208 : decode cX9_goPart 208 = .ok (.aload_n 0, 1) := by decide +kernel
theorem dX9_goPart_209 : decode cX9_goPart 209 = .ok (.getfield 15, 3) := by decide +kernel
theorem dX9_goPart_212 : decode cX9_goPart 212 = .ok (.iload 6, 2) := by decide +kernel
theorem dX9_goPart_214 : decode cX9_goPart 214 = .ok (.invokevirtual 88, 3) := by decide +kernel
theorem dX9_goPart_217 : decode cX9_goPart 217 = .ok (.iconst 4, 1) := by decide +kernel
theorem dX9_goPart_218 : decode cX9_goPart 218 = .ok (.if_icmp .eq 11, 3) := by decide +kernel
theorem dX9_goPart_221 : decode cX9_goPart 221 = .ok (.aload_n 0, 1) := by decide +kernel
theorem dX9_goPart_222 : decode cX9_goPart 222 = .ok (.iload 6, 2) := by decide +kernel
theorem dX9_goPart_224 : decode cX9_goPart 224 = .ok (.putfield 41, 3) := by decide +kernel
theorem dX9_goPart_227 : decode cX9_goPart 227 = .ok (.iconst 0, 1) := by decide +kernel
theorem dX9_goPart_228 : decode cX9_goPart 228 = .ok (.ireturn, 1) := by decide +kernel
theorem dX9_goPart_229 : decode cX9_goPart 229 = .ok (.aload_n 0, 1) := by decide +kernel
theorem dX9_goPart_230 : decode cX9_goPart 230 = .ok (.getfield 38, 3) := by decide +kernel
theorem dX9_goPart_233 : decode cX9_goPart 233 = .ok (.bipush 8, 2) := by decide +kernel
theorem dX9_goPart_235 : decode cX9_goPart 235 = .ok (.if_icmp .lt 6, 3) := by decide +kernel
theorem dX9_goPart_238 : decode cX9_goPart 238 = .ok (.bipush (-19), 2) := by decide +kernel
theorem dX9_goPart_240 : decode cX9_goPart 240 = .ok (.ireturn, 1) := by decide +kernel
theorem dX9_goPart_241 : decode cX9_goPart 241 = .ok (.aload_n 0, 1) := by decide +kernel
theorem dX9_goPart_242 : decode cX9_goPart 242 = .ok (.dup, 1) := by decide +kernel
theorem dX9_goPart_243 : decode cX9_goPart 243 = .ok (.getfield 38, 3) := by decide +kernel
theorem dX9_goPart_246 : decode cX9_goPart 246 = .ok (.iconst 1, 1) := by decide +kernel
theorem dX9_goPart_247 : decode cX9_goPart 247 = .ok (.iadd, 1) := by decide +kernel
theorem dX9_goPart_248 : decode cX9_goPart 248 = .ok (.putfield 38, 3) := by decide +kernel
theorem dX9_goPart_251 : decode cX9_goPart 251 = .ok (.aload_n 0, 1) := by decide +kernel
theorem dX9_goPart_252 : decode cX9_goPart 252 = .ok (.iload 6, 2) := by decide +kernel
theorem dX9_goPart_254 : decode cX9_goPart 254 = .ok (.invokevirtual 44, 3) := by decide +kernel
theorem dX9_goPart_257 : decode cX9_goPart 257 = .ok (.iconst 0, 1) := by decide +kernel
theorem dX9_goPart_258 : decode cX9_goPart 258 = .ok (.ireturn, 1) := by decide +kernel
theorem dX9_follow_0 : decode cX9_follow 0 = .ok (.aload_n 0, 1) := by decide +kernel
theorem dX9_follow_1 : decode cX9_follow 1 = .ok (.iconst 0, 1) := by decide +kernel
theorem dX9_follow_2 : decode cX9_follow 2 = .ok (.putfield 34, 3) := by decide +kernel
theorem dX9_follow_5 : decode cX9_follow 5 = .ok (.aload_n 0, 1) := by decide +kernel
theorem dX9_follow_6 : decode cX9_follow 6 = .ok (.iconst 0, 1) := by decide +kernel
theorem dX9_follow_7 : decode cX9_follow 7 = .ok (.putfield 38, 3) := by decide +kernel
theorem dX9_follow_10 : decode cX9_follow 10 = .ok (.aload_n 0, 1) := by decide +kernel
theorem dX9_follow_11 : decode cX9_follow 11 = .ok (.iload_n 1, 1) := by decide +kernel
theorem dX9_follow_12 : decode cX9_follow 12 = .ok (.putfield 41, 3) := by decide +kernel
theorem dX9_follow_15 : decode cX9_follow 15 = .ok (.aload_n 0, 1) := by decide +kernel
theorem dX9_follow_16 : decode cX9_follow 16 = .ok (.iconst (-1), 1) := by decide +kernel
theorem dX9_follow_17 : decode cX9_follow 17 = .ok (.invokevirtual 44, 3) := by decide +kernel
theorem dX9_follow_20 : decode cX9_follow 20 = .ok (.iconst 0, 1) := by decide +kernel
theorem dX9_follow_21 : decode cX9_follow 21 = .ok (.istore_n 3, 1) := by decide +kernel
theorem dX9_follow_22 : decode cX9_follow 22 = .ok (.iload_n 3, 1) := by decide +kernel
theorem dX9_follow_23 : decode cX9_follow 23 = .ok (.sipush 4096, 3) := by decide +kernel
theorem dX9_follow_26 : decode cX9_follow 26 = .ok (.if_icmp .ge 35, 3) := by decide +kernel
theorem dX9_follow_29 : decode cX9_follow 29 = .ok (.aload_n 0, 1) := by decide +kernel
theorem dX9_follow_30 : decode cX9_follow 30 = .ok (.getfield 34, 3) := by decide +kernel
theorem dX9_follow_33 : decode cX9_follow 33 = .ok (.ifCond .le 28, 3) := by decide +kernel
theorem dX9_follow_36 : decode cX9_follow 36 = .ok (.aload_n 0, 1) := by decide +kernel
theorem dX9_follow_37 : decode cX9_follow 37 = .ok (.invokevirtual 48, 3) := by decide +kernel
theorem dX9_follow_40 : decode cX9_follow 40 = .ok (.aload_n 0, 1) := by decide +kernel
theorem dX9_follow_41 : decode cX9_follow 41 = .ok (.iload_n 2, 1) := by decide +kernel
theorem dX9_follow_42 : decode cX9_follow 42 = .ok (.invokevirtual 51, 3) := by decide +kernel
theorem dX9_follow_45 : decode cX9_follow 45 = .ok (.istore 4, 2) := by decide +kernel
theorem dX9_follow_47 : decode cX9_follow 47 = .ok (.iload 4, 2) := by decide +kernel
theorem dX9_follow_49 : decode cX9_follow 49 = .ok (.ifCond .eq 6, 3) := by decide +kernel
theorem dX9_follow_52 : decode cX9_follow 52 = .ok (.iload 4, 2) := by decide +kernel
theorem dX9_follow_54 : decode cX9_follow 54 = .ok (.ireturn, 1) := by decide +kernel
theorem dX9_follow_55 : decode cX9_follow 55 = .ok (.iinc 3 1, 3) := by decide +kernel
theorem dX9_follow_58 : decode cX9_follow 58 = .ok (.goto (-36), 3) := by decide +kernel
theorem dX9_follow_61 : decode cX9_follow 61 = .ok (.aload_n 0, 1) := by decide +kernel
theorem dX9_follow_62 : decode cX9_follow 62 = .ok (.getfield 41, 3) := by decide +kernel
theorem dX9_follow_65 : decode cX9_follow 65 = .ok (.ireturn, 1) := by decide +kernel
theorem dX10_walk_0 : decode cX10_walk 0 = .ok (.bipush (-99), 2) := by decide +kernel
theorem dX10_walk_2 : decode cX10_walk 2 = .ok (.istore_n 2, 1) := by decide +kernel
theorem dX10_walk_3 : decode cX10_walk 3 = .ok (.aload_n 0, 1) := by decide +kernel
theorem dX10_walk_4 : decode cX10_walk 4 = .ok (.getfield 53, 3) := by decide +kernel
theorem dX10_walk_7 : decode cX10_walk 7 = .ok (.getfield 122, 3) := by decide +kernel
theorem dX10_walk_10 : decode cX10_walk 10 = .ok (.ifCond .eq 33, 3) := by decide +kernel
theorem dX10_walk_13 : decode cX10_walk 13 = .ok (.aload_n 0, 1) := by decide +kernel
theorem dX10_walk_14 : decode cX10_walk 14 = .ok (.getfield 71, 3) := by decide +kernel
theorem dX10_walk_17 : decode cX10_walk 17 = .ok (.iload_n 1, 1) := by decide +kernel
theorem dX10_walk_18 : decode cX10_walk 18 = .ok (.invokevirtual 173, 3) := by decide +kernel
theorem dX10_walk_21 : decode cX10_walk 21 = .ok (.iconst 2, 1) := by decide +kernel
theorem dX10_walk_22 : decode cX10_walk 22 = .ok (.if_icmp .ne 18, 3) := by decide +kernel
theorem dX10_walk_25 : decode cX10_walk 25 = .ok (.aload_n 0, 1) := by decide +kernel
theorem dX10_walk_26 : decode cX10_walk 26 = .ok (.getfield 100, 3) := by decide +kernel
theorem dX10_walk_29 : decode cX10_walk 29 = .ok (.iload_n 1, 1) := by decide +kernel
theorem dX10_walk_30 : decode cX10_walk 30 = .ok (.aload_n 0, 1) := by decide +kernel
theorem dX10_walk_31 : decode cX10_walk 31 = .ok (.getfield 113, 3) := by decide +kernel
theorem dX10_walk_34 : decode cX10_walk 34 = .ok (.invokevirtual 210, 3) := by decide +kernel
theorem dX10_walk_37 : decode cX10_walk 37 = .ok (.goto 5, 3) := by decide +kernel
theorem dX10_walk_40 : decode cX10_walk 40 = .ok (.bipush (-10), 2) := by decide +kernel
theorem dX10_walk_42 : decode cX10_walk 42 = .ok (.istore_n 2, 1) := by decide +kernel
theorem dX10_walk_43 : decode cX10_walk 43 = .ok (.aload_n 0, 1) := by decide +kernel
theorem dX10_walk_44 : decode cX10_walk 44 = .ok (.getfield 79, 3) := by decide +kernel
theorem dX10_walk_47 : decode cX10_walk 47 = .ok (.iconst 0, 1) := by decide +kernel
theorem dX10_walk_48 : decode cX10_walk 48 = .ok (.putfield 116, 3) := by decide +kernel
theorem dX10_walk_51 : decode cX10_walk 51 = .ok (.iload_n 2, 1) := by decide +kernel
theorem dX10_walk_52 : decode cX10_walk 52 = .ok (.ireturn, 1) := by decide +kernel
theorem dX10_refusalToList_0 : decode cX10_refusalToList 0 = .ok (.aload_n 0, 1) := by decide +kernel
theorem dX10_refusalToList_1 : decode cX10_refusalToList 1 = .ok (.getfield 53, 3) := by decide +kernel
theorem dX10_refusalToList_4 : decode cX10_refusalToList 4 = .ok (.getfield 122, 3) := by decide +kernel
theorem dX10_refusalToList_7 : decode cX10_refusalToList 7 = .ok (.ifCond .ne 6, 3) := by decide +kernel
theorem dX10_refusalToList_10 : decode cX10_refusalToList 10 = .ok (.bipush (-99), 2) := by decide +kernel
theorem dX10_refusalToList_12 : decode cX10_refusalToList 12 = .ok (.ireturn, 1) := by decide +kernel
theorem dX10_refusalToList_13 : decode cX10_refusalToList 13 = .ok (.aload_n 0, 1) := by decide +kernel
theorem dX10_refusalToList_14 : decode cX10_refusalToList 14 = .ok (.getfield 71, 3) := by decide +kernel
theorem dX10_refusalToList_17 : decode cX10_refusalToList 17 = .ok (.iload_n 1, 1) := by decide +kernel
theorem dX10_refusalToList_18 : decode cX10_refusalToList 18 = .ok (.invokevirtual 173, 3) := by decide +kernel
theorem dX10_refusalToList_21 : decode cX10_refusalToList 21 = .ok (.iconst 2, 1) := by decide +kernel
theorem dX10_refusalToList_22 : decode cX10_refusalToList 22 = .ok (.if_icmp .eq 6, 3) := by decide +kernel
theorem dX10_refusalToList_25 : decode cX10_refusalToList 25 = .ok (.bipush (-10), 2) := by decide +kernel
theorem dX10_refusalToList_27 : decode cX10_refusalToList 27 = .ok (.ireturn, 1) := by decide +kernel
theorem dX10_refusalToList_28 : decode cX10_refusalToList 28 = .ok (.aload_n 0, 1) := by decide +kernel
theorem dX10_refusalToList_29 : decode cX10_refusalToList 29 = .ok (.getfield 71, 3) := by decide +kernel
theorem dX10_refusalToList_32 : decode cX10_refusalToList 32 = .ok (.iload_n 1, 1) := by decide +kernel
theorem dX10_refusalToList_33 : decode cX10_refusalToList 33 = .ok (.iconst 4, 1) := by decide +kernel
theorem dX10_refusalToList_34 : decode cX10_refusalToList 34 = .ok (.aload_n 0, 1) := by decide +kernel
theorem dX10_refusalToList_35 : decode cX10_refusalToList 35 = .ok (.getfield 113, 3) := by decide +kernel
theorem dX10_refusalToList_38 : decode cX10_refusalToList 38 = .ok (.invokevirtual 176, 3) := by decide +kernel
theorem dX10_refusalToList_41 : decode cX10_refusalToList 41 = .ok (.ifCond .eq 7, 3) := by decide +kernel
theorem dX10_refusalToList_44 : decode cX10_refusalToList 44 = .ok (.iconst 0, 1) := by decide +kernel
theorem dX10_refusalToList_45 : decode cX10_refusalToList 45 = .ok (.goto 5, 3) := by decide +kernel
theorem dX10_refusalToList_48 : decode cX10_refusalToList 48 = .ok (.bipush (-20), 2) := by decide +kernel
theorem dX10_refusalToList_50 : decode cX10_refusalToList 50 = .ok (.ireturn, 1) := by decide +kernel
theorem dX3_orderKey_0 : decode cX3_orderKey 0 = .ok (.lconst 0, 1) := by decide +kernel
theorem dX3_orderKey_1 : decode cX3_orderKey 1 = .ok (.lstore_n 2, 1) := by decide +kernel
theorem dX3_orderKey_2 : decode cX3_orderKey 2 = .ok (.iconst 0, 1) := by decide +kernel
theorem dX3_orderKey_3 : decode cX3_orderKey 3 = .ok (.istore 4, 2) := by decide +kernel
theorem dX3_orderKey_5 : decode cX3_orderKey 5 = .ok (.iload 4, 2) := by decide +kernel
theorem dX3_orderKey_7 : decode cX3_orderKey 7 = .ok (.bipush 8, 2) := by decide +kernel
theorem dX3_orderKey_9 : decode cX3_orderKey 9 = .ok (.if_icmp .ge 26, 3) := by decide +kernel
theorem dX3_orderKey_12 : decode cX3_orderKey 12 = .ok (.lload_n 2, 1) := by decide +kernel
theorem dX3_orderKey_13 : decode cX3_orderKey 13 = .ok (.bipush 8, 2) := by decide +kernel
theorem dX3_orderKey_15 : decode cX3_orderKey 15 = .ok (.lshl, 1) := by decide +kernel
theorem dX3_orderKey_16 : decode cX3_orderKey 16 = .ok (.lload_n 0, 1) := by decide +kernel
theorem dX3_orderKey_17 : decode cX3_orderKey 17 = .ok (.bipush 8, 2) := by decide +kernel
theorem dX3_orderKey_19 : decode cX3_orderKey 19 = .ok (.iload 4, 2) := by decide +kernel
theorem dX3_orderKey_21 : decode cX3_orderKey 21 = .ok (.imul, 1) := by decide +kernel
theorem dX3_orderKey_22 : decode cX3_orderKey 22 = .ok (.lushr, 1) := by decide +kernel
theorem dX3_orderKey_23 : decode cX3_orderKey 23 = .ok (.ldc2_w 31, 3) := by decide +kernel
theorem dX3_orderKey_26 : decode cX3_orderKey 26 = .ok (.land, 1) := by decide +kernel
theorem dX3_orderKey_27 : decode cX3_orderKey 27 = .ok (.lor, 1) := by decide +kernel
theorem dX3_orderKey_28 : decode cX3_orderKey 28 = .ok (.lstore_n 2, 1) := by decide +kernel
theorem dX3_orderKey_29 : decode cX3_orderKey 29 = .ok (.iinc 4 1, 3) := by decide +kernel
theorem dX3_orderKey_32 : decode cX3_orderKey 32 = .ok (.goto (-27), 3) := by decide +kernel
theorem dX3_orderKey_35 : decode cX3_orderKey 35 = .ok (.lload_n 2, 1) := by decide +kernel
theorem dX3_orderKey_36 : decode cX3_orderKey 36 = .ok (.lreturn, 1) := by decide +kernel
theorem dX3_slotInOrder_0 : decode cX3_slotInOrder 0 = .ok (.iconst 0, 1) := by decide +kernel
theorem dX3_slotInOrder_1 : decode cX3_slotInOrder 1 = .ok (.istore_n 3, 1) := by decide +kernel
theorem dX3_slotInOrder_2 : decode cX3_slotInOrder 2 = .ok (.iconst 0, 1) := by decide +kernel
theorem dX3_slotInOrder_3 : decode cX3_slotInOrder 3 = .ok (.istore 4, 2) := by decide +kernel
theorem dX3_slotInOrder_5 : decode cX3_slotInOrder 5 = .ok (.iload 4, 2) := by decide +kernel
theorem dX3_slotInOrder_7 : decode cX3_slotInOrder 7 = .ok (.aload_n 0, 1) := by decide +kernel
theorem dX3_slotInOrder_8 : decode cX3_slotInOrder 8 = .ok (.getfield 23, 3) := by decide +kernel
theorem dX3_slotInOrder_11 : decode cX3_slotInOrder 11 = .ok (.arraylength, 1) := by decide +kernel
theorem dX3_slotInOrder_12 : decode cX3_slotInOrder 12 = .ok (.if_icmp .ge 57, 3) := by decide +kernel
theorem dX3_slotInOrder_15 : decode cX3_slotInOrder 15 = .ok (.iload 4, 2) := by decide +kernel
theorem dX3_slotInOrder_17 : decode cX3_slotInOrder 17 = .ok (.aload_n 0, 1) := by decide +kernel
theorem dX3_slotInOrder_18 : decode cX3_slotInOrder 18 = .ok (.getfield 27, 3) := by decide +kernel
theorem dX3_slotInOrder_21 : decode cX3_slotInOrder 21 = .ok (.arraylength, 1) := by decide +kernel
theorem dX3_slotInOrder_22 : decode cX3_slotInOrder 22 = .ok (.if_icmp .ge 47, 3) := by decide +kernel
theorem dX3_slotInOrder_25 : decode cX3_slotInOrder 25 = .ok (.aload_n 0, 1) := by decide +kernel
theorem dX3_slotInOrder_26 : decode cX3_slotInOrder 26 = .ok (.iload_n 1, 1) := by decide +kernel
theorem dX3_slotInOrder_27 : decode cX3_slotInOrder 27 = .ok (.iload 4, 2) := by decide +kernel
theorem dX3_slotInOrder_29 : decode cX3_slotInOrder 29 = .ok (.invokevirtual 81, 3) := by decide +kernel
theorem dX3_slotInOrder_32 : decode cX3_slotInOrder 32 = .ok (.lstore 5, 2) := by decide +kernel
theorem dX3_slotInOrder_34 : decode cX3_slotInOrder 34 = .ok (.lload 5, 2) := by decide +kernel
theorem dX3_slotInOrder_36 : decode cX3_slotInOrder 36 = .ok (.lconst 0, 1) := by decide +kernel
theorem dX3_slotInOrder_37 : decode cX3_slotInOrder 37 = .ok (.lcmp, 1) := by decide +kernel
theorem dX3_slotInOrder_38 : decode cX3_slotInOrder 38 = .ok (.ifCond .eq 25, 3) := by decide +kernel
theorem dX3_slotInOrder_41 : decode cX3_slotInOrder 41 = .ok (.aload_n 0, 1) := by decide +kernel
theorem dX3_slotInOrder_42 : decode cX3_slotInOrder 42 = .ok (.getfield 23, 3) := by decide +kernel
theorem dX3_slotInOrder_45 : decode cX3_slotInOrder 45 = .ok (.iload_n 3, 1) := by decide +kernel
theorem dX3_slotInOrder_46 : decode cX3_slotInOrder 46 = .ok (.lload 5, 2) := by decide +kernel
theorem dX3_slotInOrder_48 : decode cX3_slotInOrder 48 = .ok (.invokestatic 84, 3) := by decide +kernel
theorem dX3_slotInOrder_51 : decode cX3_slotInOrder 51 = .ok (.lastore, 1) := by decide +kernel
theorem dX3_slotInOrder_52 : decode cX3_slotInOrder 52 = .ok (.aload_n 0, 1) := by decide +kernel
theorem dX3_slotInOrder_53 : decode cX3_slotInOrder 53 = .ok (.getfield 27, 3) := by decide +kernel
theorem dX3_slotInOrder_56 : decode cX3_slotInOrder 56 = .ok (.iload_n 3, 1) := by decide +kernel
theorem dX3_slotInOrder_57 : decode cX3_slotInOrder 57 = .ok (.iload 4, 2) := by decide +kernel
theorem dX3_slotInOrder_59 : decode cX3_slotInOrder 59 = .ok (.iastore, 1) := by decide +kernel
theorem dX3_slotInOrder_60 : decode cX3_slotInOrder 60 = .ok (.iinc 3 1, 3) := by decide +kernel
theorem dX3_slotInOrder_63 : decode cX3_slotInOrder 63 = .ok (.iinc 4 1, 3) := by decide +kernel
theorem dX3_slotInOrder_66 : decode cX3_slotInOrder 66 = .ok (.goto (-61), 3) := by decide +kernel
theorem dX3_slotInOrder_69 : decode cX3_slotInOrder 69 = .ok (.iconst 0, 1) := by decide +kernel
theorem dX3_slotInOrder_70 : decode cX3_slotInOrder 70 = .ok (.istore 4, 2) := by decide +kernel
theorem dX3_slotInOrder_72 : decode cX3_slotInOrder 72 = .ok (.iload 4, 2) := by decide +kernel
theorem dX3_slotInOrder_74 : decode cX3_slotInOrder 74 = .ok (.iload_n 3, 1) := by decide +kernel
theorem dX3_slotInOrder_75 : decode cX3_slotInOrder 75 = .ok (.if_icmp .ge 62, 3) := by decide +kernel
theorem dX3_slotInOrder_78 : decode cX3_slotInOrder 78 = .ok (.iconst 0, 1) := by decide +kernel
theorem dX3_slotInOrder_79 : decode cX3_slotInOrder 79 = .ok (.istore 5, 2) := by decide +kernel
theorem dX3_slotInOrder_81 : decode cX3_slotInOrder 81 = .ok (.iconst 0, 1) := by decide +kernel
theorem dX3_slotInOrder_82 : decode cX3_slotInOrder 82 = .ok (.istore 6, 2) := by decide +kernel
theorem dX3_slotInOrder_84 : decode cX3_slotInOrder 84 = .ok (.iload 6, 2) := by decide +kernel
theorem dX3_slotInOrder_86 : decode cX3_slotInOrder 86 = .ok (.iload_n 3, 1) := by decide +kernel
theorem dX3_slotInOrder_87 : decode cX3_slotInOrder 87 = .ok (.if_icmp .ge 30, 3) := by decide +kernel
theorem dX3_slotInOrder_90 : decode cX3_slotInOrder 90 = .ok (.aload_n 0, 1) := by decide +kernel
theorem dX3_slotInOrder_91 : decode cX3_slotInOrder 91 = .ok (.getfield 23, 3) := by decide +kernel
theorem dX3_slotInOrder_94 : decode cX3_slotInOrder 94 = .ok (.iload 6, 2) := by decide +kernel
theorem dX3_slotInOrder_96 : decode cX3_slotInOrder 96 = .ok (.laload, 1) := by decide +kernel
theorem dX3_slotInOrder_97 : decode cX3_slotInOrder 97 = .ok (.aload_n 0, 1) := by decide +kernel
theorem dX3_slotInOrder_98 : decode cX3_slotInOrder 98 = .ok (.getfield 23, 3) := by decide +kernel
theorem dX3_slotInOrder_101 : decode cX3_slotInOrder 101 = .ok (.iload 4, 2) := by decide +kernel
theorem dX3_slotInOrder_103 : decode cX3_slotInOrder 103 = .ok (.laload, 1) := by decide +kernel
theorem dX3_slotInOrder_104 : decode cX3_slotInOrder 104 = .ok (.lcmp, 1) := by decide +kernel
theorem dX3_slotInOrder_105 : decode cX3_slotInOrder 105 = .ok (.ifCond .ge 6, 3) := by decide +kernel
theorem dX3_slotInOrder_108 : decode cX3_slotInOrder 108 = .ok (.iinc 5 1, 3) := by decide +kernel
theorem dX3_slotInOrder_111 : decode cX3_slotInOrder 111 = .ok (.iinc 6 1, 3) := by decide +kernel
theorem dX3_slotInOrder_114 : decode cX3_slotInOrder 114 = .ok (.goto (-30), 3) := by decide +kernel
theorem dX3_slotInOrder_117 : decode cX3_slotInOrder 117 = .ok (.iload 5, 2) := by decide +kernel
theorem dX3_slotInOrder_119 : decode cX3_slotInOrder 119 = .ok (.iload_n 2, 1) := by decide +kernel
theorem dX3_slotInOrder_120 : decode cX3_slotInOrder 120 = .ok (.if_icmp .ne 11, 3) := by decide +kernel
theorem dX3_slotInOrder_123 : decode cX3_slotInOrder 123 = .ok (.aload_n 0, 1) := by decide +kernel
theorem dX3_slotInOrder_124 : decode cX3_slotInOrder 124 = .ok (.getfield 27, 3) := by decide +kernel
theorem dX3_slotInOrder_127 : decode cX3_slotInOrder 127 = .ok (.iload 4, 2) := by decide +kernel
theorem dX3_slotInOrder_129 : decode cX3_slotInOrder 129 = .ok (.iaload, 1) := by decide +kernel
theorem dX3_slotInOrder_130 : decode cX3_slotInOrder 130 = .ok (.ireturn, 1) := by decide +kernel
theorem dX3_slotInOrder_131 : decode cX3_slotInOrder 131 = .ok (.iinc 4 1, 3) := by decide +kernel
theorem dX3_slotInOrder_134 : decode cX3_slotInOrder 134 = .ok (.goto (-62), 3) := by decide +kernel
theorem dX3_slotInOrder_137 : decode cX3_slotInOrder 137 = .ok (.iconst (-1), 1) := by decide +kernel
theorem dX3_slotInOrder_138 : decode cX3_slotInOrder 138 = .ok (.ireturn, 1) := by decide +kernel
theorem dX10_entry_0 : decode cX10_entry 0 = .ok (.aload_n 0, 1) := by decide +kernel
theorem dX10_entry_1 : decode cX10_entry 1 = .ok (.iload_n 1, 1) := by decide +kernel
theorem dX10_entry_2 : decode cX10_entry 2 = .ok (.invokevirtual 213, 3) := by decide +kernel
theorem dX10_entry_5 : decode cX10_entry 5 = .ok (.istore_n 3, 1) := by decide +kernel
theorem dX10_entry_6 : decode cX10_entry 6 = .ok (.iload_n 3, 1) := by decide +kernel
theorem dX10_entry_7 : decode cX10_entry 7 = .ok (.ifCond .eq 5, 3) := by decide +kernel
theorem dX10_entry_10 : decode cX10_entry 10 = .ok (.iload_n 3, 1) := by decide +kernel
theorem dX10_entry_11 : decode cX10_entry 11 = .ok (.ireturn, 1) := by decide +kernel
theorem dX10_entry_12 : decode cX10_entry 12 = .ok (.aload_n 0, 1) := by decide +kernel
theorem dX10_entry_13 : decode cX10_entry 13 = .ok (.getfield 75, 3) := by decide +kernel
theorem dX10_entry_16 : decode cX10_entry 16 = .ok (.iload_n 1, 1) := by decide +kernel
theorem dX10_entry_17 : decode cX10_entry 17 = .ok (.iload_n 2, 1) := by decide +kernel
theorem dX10_entry_18 : decode cX10_entry 18 = .ok (.invokevirtual 216, 3) := by decide +kernel
theorem dX10_entry_21 : decode cX10_entry 21 = .ok (.istore 4, 2) := by decide +kernel
theorem dX10_entry_23 : decode cX10_entry 23 = .ok (.iload 4, 2) := by decide +kernel
theorem dX10_entry_25 : decode cX10_entry 25 = .ok (.iconst (-1), 1) := by decide +kernel
theorem dX10_entry_26 : decode cX10_entry 26 = .ok (.if_icmp .ne 7, 3) := by decide +kernel
theorem dX10_entry_29 : decode cX10_entry 29 = .ok (.iconst (-1), 1) := by decide +kernel
theorem dX10_entry_30 : decode cX10_entry 30 = .ok (.goto 13, 3) := by decide +kernel
theorem dX10_entry_33 : decode cX10_entry 33 = .ok (.aload_n 0, 1) := by decide +kernel
theorem dX10_entry_34 : decode cX10_entry 34 = .ok (.getfield 75, 3) := by decide +kernel
theorem dX10_entry_37 : decode cX10_entry 37 = .ok (.iload_n 1, 1) := by decide +kernel
theorem dX10_entry_38 : decode cX10_entry 38 = .ok (.iload 4, 2) := by decide +kernel
theorem dX10_entry_40 : decode cX10_entry 40 = .ok (.invokevirtual 186, 3) := by decide +kernel
theorem dX10_entry_43 : decode cX10_entry 43 = .ok (.ireturn, 1) := by decide +kernel
theorem dX10_name_0 : decode cX10_name 0 = .ok (.aload_n 0, 1) := by decide +kernel
theorem dX10_name_1 : decode cX10_name 1 = .ok (.iload_n 1, 1) := by decide +kernel
theorem dX10_name_2 : decode cX10_name 2 = .ok (.invokevirtual 213, 3) := by decide +kernel
theorem dX10_name_5 : decode cX10_name 5 = .ok (.istore_n 3, 1) := by decide +kernel
theorem dX10_name_6 : decode cX10_name 6 = .ok (.iload_n 3, 1) := by decide +kernel
theorem dX10_name_7 : decode cX10_name 7 = .ok (.ifCond .eq 6, 3) := by decide +kernel
theorem dX10_name_10 : decode cX10_name 10 = .ok (.iload_n 3, 1) := by decide +kernel
theorem dX10_name_11 : decode cX10_name 11 = .ok (.i2l, 1) := by decide +kernel
theorem dX10_name_12 : decode cX10_name 12 = .ok (.lreturn, 1) := by decide +kernel
theorem dX10_name_13 : decode cX10_name 13 = .ok (.aload_n 0, 1) := by decide +kernel
theorem dX10_name_14 : decode cX10_name 14 = .ok (.getfield 75, 3) := by decide +kernel
theorem dX10_name_17 : decode cX10_name 17 = .ok (.iload_n 1, 1) := by decide +kernel
theorem dX10_name_18 : decode cX10_name 18 = .ok (.iload_n 2, 1) := by decide +kernel
theorem dX10_name_19 : decode cX10_name 19 = .ok (.invokevirtual 216, 3) := by decide +kernel
theorem dX10_name_22 : decode cX10_name 22 = .ok (.istore 4, 2) := by decide +kernel
theorem dX10_name_24 : decode cX10_name 24 = .ok (.iload 4, 2) := by decide +kernel
theorem dX10_name_26 : decode cX10_name 26 = .ok (.iconst (-1), 1) := by decide +kernel
theorem dX10_name_27 : decode cX10_name 27 = .ok (.if_icmp .ne 9, 3) := by decide +kernel
theorem dX10_name_30 : decode cX10_name 30 = .ok (.ldc2_w 219, 3) := by decide +kernel
theorem dX10_name_33 : decode cX10_name 33 = .ok (.goto 13, 3) := by decide +kernel
theorem dX10_name_36 : decode cX10_name 36 = .ok (.aload_n 0, 1) := by decide +kernel
theorem dX10_name_37 : decode cX10_name 37 = .ok (.getfield 75, 3) := by decide +kernel
theorem dX10_name_40 : decode cX10_name 40 = .ok (.iload_n 1, 1) := by decide +kernel
theorem dX10_name_41 : decode cX10_name 41 = .ok (.iload 4, 2) := by decide +kernel
theorem dX10_name_43 : decode cX10_name 43 = .ok (.invokevirtual 221, 3) := by decide +kernel
theorem dX10_name_46 : decode cX10_name 46 = .ok (.lreturn, 1) := by decide +kernel
theorem dX10_kind_0 : decode cX10_kind 0 = .ok (.aload_n 0, 1) := by decide +kernel
theorem dX10_kind_1 : decode cX10_kind 1 = .ok (.getfield 53, 3) := by decide +kernel
theorem dX10_kind_4 : decode cX10_kind 4 = .ok (.getfield 122, 3) := by decide +kernel
theorem dX10_kind_7 : decode cX10_kind 7 = .ok (.ifCond .ne 6, 3) := by decide +kernel
theorem dX10_kind_10 : decode cX10_kind 10 = .ok (.bipush (-99), 2) := by decide +kernel
theorem dX10_kind_12 : decode cX10_kind 12 = .ok (.ireturn, 1) := by decide +kernel
theorem dX10_kind_13 : decode cX10_kind 13 = .ok (.iload_n 1, 1) := by decide +kernel
theorem dX10_kind_14 : decode cX10_kind 14 = .ok (.invokestatic 225, 3) := by decide +kernel
theorem dX10_kind_17 : decode cX10_kind 17 = .ok (.ifCond .eq 14, 3) := by decide +kernel
theorem dX10_kind_20 : decode cX10_kind 20 = .ok (.aload_n 0, 1) := by decide +kernel
theorem dX10_kind_21 : decode cX10_kind 21 = .ok (.getfield 71, 3) := by decide +kernel
theorem dX10_kind_24 : decode cX10_kind 24 = .ok (.iload_n 1, 1) := by decide +kernel
theorem dX10_kind_25 : decode cX10_kind 25 = .ok (.invokevirtual 173, 3) := by decide +kernel
theorem dX10_kind_28 : decode cX10_kind 28 = .ok (.goto 5, 3) := by decide +kernel
theorem dX10_kind_31 : decode cX10_kind 31 = .ok (.bipush (-10), 2) := by decide +kernel
theorem dX10_kind_33 : decode cX10_kind 33 = .ok (.ireturn, 1) := by decide +kernel
theorem dX10_refusalOfFree_0 : decode cX10_refusalOfFree 0 = .ok (.aload_n 0, 1) := by decide +kernel
theorem dX10_refusalOfFree_1 : decode cX10_refusalOfFree 1 = .ok (.getfield 53, 3) := by decide +kernel
theorem dX10_refusalOfFree_4 : decode cX10_refusalOfFree 4 = .ok (.getfield 122, 3) := by decide +kernel
theorem dX10_refusalOfFree_7 : decode cX10_refusalOfFree 7 = .ok (.ifCond .ne 6, 3) := by decide +kernel
theorem dX10_refusalOfFree_10 : decode cX10_refusalOfFree 10 = .ok (.bipush (-99), 2) := by decide +kernel
theorem dX10_refusalOfFree_12 : decode cX10_refusalOfFree 12 = .ok (.ireturn, 1) := by decide +kernel
theorem dX10_refusalOfFree_13 : decode cX10_refusalOfFree 13 = .ok (.aload_n 0, 1) := by decide +kernel
theorem dX10_refusalOfFree_14 : decode cX10_refusalOfFree 14 = .ok (.getfield 71, 3) := by decide +kernel
theorem dX10_refusalOfFree_17 : decode cX10_refusalOfFree 17 = .ok (.iload_n 1, 1) := by decide +kernel
theorem dX10_refusalOfFree_18 : decode cX10_refusalOfFree 18 = .ok (.invokevirtual 173, 3) := by decide +kernel
theorem dX10_refusalOfFree_21 : decode cX10_refusalOfFree 21 = .ok (.ifCond .ne 8, 3) := by decide +kernel
theorem dX10_refusalOfFree_24 : decode cX10_refusalOfFree 24 = .ok (.bipush (-10), 2) := by decide +kernel
theorem dX10_refusalOfFree_26 : decode cX10_refusalOfFree 26 = .ok (.goto 4, 3) := by decide +kernel
theorem dX10_refusalOfFree_29 : decode cX10_refusalOfFree 29 = .ok (.iconst 0, 1) := by decide +kernel
theorem dX10_refusalOfFree_30 : decode cX10_refusalOfFree 30 = .ok (.ireturn, 1) := by decide +kernel
theorem dX10_size_0 : decode cX10_size 0 = .ok (.aload_n 0, 1) := by decide +kernel
theorem dX10_size_1 : decode cX10_size 1 = .ok (.iload_n 1, 1) := by decide +kernel
theorem dX10_size_2 : decode cX10_size 2 = .ok (.invokevirtual 228, 3) := by decide +kernel
theorem dX10_size_5 : decode cX10_size 5 = .ok (.istore_n 2, 1) := by decide +kernel
theorem dX10_size_6 : decode cX10_size 6 = .ok (.iload_n 2, 1) := by decide +kernel
theorem dX10_size_7 : decode cX10_size 7 = .ok (.ifCond .eq 5, 3) := by decide +kernel
theorem dX10_size_10 : decode cX10_size 10 = .ok (.iload_n 2, 1) := by decide +kernel
theorem dX10_size_11 : decode cX10_size 11 = .ok (.ireturn, 1) := by decide +kernel
theorem dX10_size_12 : decode cX10_size 12 = .ok (.aload_n 0, 1) := by decide +kernel
theorem dX10_size_13 : decode cX10_size 13 = .ok (.getfield 71, 3) := by decide +kernel
theorem dX10_size_16 : decode cX10_size 16 = .ok (.iload_n 1, 1) := by decide +kernel
theorem dX10_size_17 : decode cX10_size 17 = .ok (.invokevirtual 173, 3) := by decide +kernel
theorem dX10_size_20 : decode cX10_size 20 = .ok (.iconst 2, 1) := by decide +kernel
theorem dX10_size_21 : decode cX10_size 21 = .ok (.if_icmp .ne 14, 3) := by decide +kernel
theorem dX10_size_24 : decode cX10_size 24 = .ok (.aload_n 0, 1) := by decide +kernel
theorem dX10_size_25 : decode cX10_size 25 = .ok (.getfield 75, 3) := by decide +kernel
theorem dX10_size_28 : decode cX10_size 28 = .ok (.iload_n 1, 1) := by decide +kernel
theorem dX10_size_29 : decode cX10_size 29 = .ok (.invokevirtual 189, 3) := by decide +kernel
theorem dX10_size_32 : decode cX10_size 32 = .ok (.goto 11, 3) := by decide +kernel
theorem dX10_size_35 : decode cX10_size 35 = .ok (.aload_n 0, 1) := by decide +kernel
theorem dX10_size_36 : decode cX10_size 36 = .ok (.getfield 91, 3) := by decide +kernel
theorem dX10_size_39 : decode cX10_size 39 = .ok (.iload_n 1, 1) := by decide +kernel
theorem dX10_size_40 : decode cX10_size 40 = .ok (.invokevirtual 231, 3) := by decide +kernel
theorem dX10_size_43 : decode cX10_size 43 = .ok (.ireturn, 1) := by decide +kernel
theorem dX4_modeOf_0 : decode cX4_modeOf 0 = .ok (.aload_n 0, 1) := by decide +kernel
theorem dX4_modeOf_1 : decode cX4_modeOf 1 = .ok (.getfield 9, 3) := by decide +kernel
theorem dX4_modeOf_4 : decode cX4_modeOf 4 = .ok (.aload_n 0, 1) := by decide +kernel
theorem dX4_modeOf_5 : decode cX4_modeOf 5 = .ok (.getfield 15, 3) := by decide +kernel
theorem dX4_modeOf_8 : decode cX4_modeOf 8 = .ok (.iload_n 1, 1) := by decide +kernel
theorem dX4_modeOf_9 : decode cX4_modeOf 9 = .ok (.iadd, 1) := by decide +kernel
theorem dX4_modeOf_10 : decode cX4_modeOf 10 = .ok (.iconst 2, 1) := by decide +kernel
theorem dX4_modeOf_11 : decode cX4_modeOf 11 = .ok (.invokevirtual 23, 3) := by decide +kernel
theorem dX4_modeOf_14 : decode cX4_modeOf 14 = .ok (.ireturn, 1) := by decide +kernel
theorem dX4_setMode_0 : decode cX4_setMode 0 = .ok (.aload_n 0, 1) := by decide +kernel
theorem dX4_setMode_1 : decode cX4_setMode 1 = .ok (.getfield 9, 3) := by decide +kernel
theorem dX4_setMode_4 : decode cX4_setMode 4 = .ok (.aload_n 0, 1) := by decide +kernel
theorem dX4_setMode_5 : decode cX4_setMode 5 = .ok (.getfield 15, 3) := by decide +kernel
theorem dX4_setMode_8 : decode cX4_setMode 8 = .ok (.iload_n 1, 1) := by decide +kernel
theorem dX4_setMode_9 : decode cX4_setMode 9 = .ok (.iadd, 1) := by decide +kernel
theorem dX4_setMode_10 : decode cX4_setMode 10 = .ok (.iconst 2, 1) := by decide +kernel
theorem dX4_setMode_11 : decode cX4_setMode 11 = .ok (.iload_n 2, 1) := by decide +kernel
theorem dX4_setMode_12 : decode cX4_setMode 12 = .ok (.invokevirtual 33, 3) := by decide +kernel
theorem dX4_setMode_15 : decode cX4_setMode 15 = .ok (.return_, 1) := by decide +kernel
theorem dX4_ownerOf_0 : decode cX4_ownerOf 0 = .ok (.aload_n 0, 1) := by decide +kernel
theorem dX4_ownerOf_1 : decode cX4_ownerOf 1 = .ok (.getfield 9, 3) := by decide +kernel
theorem dX4_ownerOf_4 : decode cX4_ownerOf 4 = .ok (.aload_n 0, 1) := by decide +kernel
theorem dX4_ownerOf_5 : decode cX4_ownerOf 5 = .ok (.getfield 15, 3) := by decide +kernel
theorem dX4_ownerOf_8 : decode cX4_ownerOf 8 = .ok (.iload_n 1, 1) := by decide +kernel
theorem dX4_ownerOf_9 : decode cX4_ownerOf 9 = .ok (.iadd, 1) := by decide +kernel
theorem dX4_ownerOf_10 : decode cX4_ownerOf 10 = .ok (.iconst 1, 1) := by decide +kernel
theorem dX4_ownerOf_11 : decode cX4_ownerOf 11 = .ok (.invokevirtual 23, 3) := by decide +kernel
theorem dX4_ownerOf_14 : decode cX4_ownerOf 14 = .ok (.ireturn, 1) := by decide +kernel
theorem dX10_mode_0 : decode cX10_mode 0 = .ok (.aload_n 0, 1) := by decide +kernel
theorem dX10_mode_1 : decode cX10_mode 1 = .ok (.getfield 63, 3) := by decide +kernel
theorem dX10_mode_4 : decode cX10_mode 4 = .ok (.bipush 40, 2) := by decide +kernel
theorem dX10_mode_6 : decode cX10_mode 6 = .ok (.invokevirtual 126, 3) := by decide +kernel
theorem dX10_mode_9 : decode cX10_mode 9 = .ok (.ifCond .ne 6, 3) := by decide +kernel
theorem dX10_mode_12 : decode cX10_mode 12 = .ok (.bipush (-99), 2) := by decide +kernel
theorem dX10_mode_14 : decode cX10_mode 14 = .ok (.ireturn, 1) := by decide +kernel
theorem dX10_mode_15 : decode cX10_mode 15 = .ok (.aload_n 0, 1) := by decide +kernel
theorem dX10_mode_16 : decode cX10_mode 16 = .ok (.iload_n 1, 1) := by decide +kernel
theorem dX10_mode_17 : decode cX10_mode 17 = .ok (.invokevirtual 228, 3) := by decide +kernel
theorem dX10_mode_20 : decode cX10_mode 20 = .ok (.istore_n 3, 1) := by decide +kernel
theorem dX10_mode_21 : decode cX10_mode 21 = .ok (.iload_n 3, 1) := by decide +kernel
