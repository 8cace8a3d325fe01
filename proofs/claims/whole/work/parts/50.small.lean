theorem oi_i : Cond.instanceMethod objectInit ∈ q_T := q_mt 23 (by decide +kernel) rfl
theorem oi_c : Cond.code objectInit ⟨#[0xb1]⟩ 1 none ∈ q_T := q_mt 24 (by decide +kernel) rfl
theorem ac_int : Cond.arrayClass .int ∈ q_T := q_mt 132 (by decide +kernel) rfl
theorem ac_long : Cond.arrayClass .long ∈ q_T := q_mt 106 (by decide +kernel) rfl
theorem ac_boolean : Cond.arrayClass .boolean ∈ q_T := q_mt 107 (by decide +kernel) rfl
theorem ac_byte : Cond.arrayClass .byte ∈ q_T := q_mt 1374 (by decide +kernel) rfl
theorem ol_X2_3 : Cond.methodLink RX2 3 objectInit ∈ q_T := q_mt 30 (by decide +kernel) rfl
theorem lw_X2_15 : Cond.methodLink RX2 15 Lib.Math.max.name ∈ q_T := q_mt 34 (by decide +kernel) rfl
theorem fl_X2_18 : Cond.fieldLink RX2 18 "ShingleHouse$Disk" "bands" "I" ∈ q_T := q_mt 38 (by decide +kernel) rfl
theorem fl_X2_24 : Cond.fieldLink RX2 24 "ShingleHouse$Disk" "tracks" "I" ∈ q_T := q_mt 39 (by decide +kernel) rfl
theorem ol_X7_1 : Cond.methodLink RX7 1 objectInit ∈ q_T := q_mt 119 (by decide +kernel) rfl
theorem ol_X8_3 : Cond.methodLink RX8 3 objectInit ∈ q_T := q_mt 113 (by decide +kernel) rfl
theorem fl_X8_15 : Cond.fieldLink RX8 15 "ShingleHouse$Disk" "bands" "I" ∈ q_T := q_mt 37 (by decide +kernel) rfl
theorem cl_X8_44 : Cond.classLink RX8 44 RX7 ∈ q_T := q_mt 114 (by decide +kernel) rfl
theorem it_X7 : Cond.instantiable RX7 2 ∈ q_T := q_mt 115 (by decide +kernel) rfl
theorem in_X7 : Cond.initialized RX7 ∈ q_T := q_mt 5 (by decide +kernel) rfl
theorem ci_X8_46 : q_cw RX8 46 RX7 yX7_init cX7_init 2 none 1 := ⟨q_mt 118 (by decide +kernel) rfl, q_mt 116 (by decide +kernel) rfl, q_mt 5 (by decide +kernel) rfl, by decide +kernel⟩
theorem ci_X8_46i : Cond.instanceMethod yX7_init ∈ q_T := q_mt 117 (by decide +kernel) rfl
theorem ol_X6_3 : Cond.methodLink RX6 3 objectInit ∈ q_T := q_mt 190 (by decide +kernel) rfl
theorem fl_X6_19 : Cond.fieldLink RX6 19 "ShingleHouse$Disk" "sectors" "I" ∈ q_T := q_mt 48 (by decide +kernel) rfl
theorem ol_X5_3 : Cond.methodLink RX5 3 objectInit ∈ q_T := q_mt 226 (by decide +kernel) rfl
theorem fl_X5_15 : Cond.fieldLink RX5 15 "ShingleHouse$Disk" "sectors" "I" ∈ q_T := q_mt 47 (by decide +kernel) rfl
theorem fl_X5_22 : Cond.fieldLink RX5 22 "ShingleHouse$Disk" "bandSize" "I" ∈ q_T := q_mt 42 (by decide +kernel) rfl
theorem fl_X5_29 : Cond.fieldLink RX5 29 "ShingleHouse$Space" "firstNode" "I" ∈ q_T := q_mt 231 (by decide +kernel) rfl
theorem ol_X4_3 : Cond.methodLink RX4 3 objectInit ∈ q_T := q_mt 254 (by decide +kernel) rfl
theorem ol_X3_3 : Cond.methodLink RX3 3 objectInit ∈ q_T := q_mt 267 (by decide +kernel) rfl
theorem ol_X0_5 : Cond.methodLink RX0 5 objectInit ∈ q_T := q_mt 296 (by decide +kernel) rfl
theorem ol_X9_3 : Cond.methodLink RX9 3 objectInit ∈ q_T := q_mt 315 (by decide +kernel) rfl
theorem ol_X1_3 : Cond.methodLink RX1 3 objectInit ∈ q_T := q_mt 358 (by decide +kernel) rfl
theorem fl_X1_27 : Cond.fieldLink RX1 27 "ShingleHouse$Disk" "sectors" "I" ∈ q_T := q_mt 49 (by decide +kernel) rfl
theorem dX2_format_0 : decode cX2_format 0 = .ok (.iconst 0, 1) := by decide +kernel
theorem dX2_format_1 : decode cX2_format 1 = .ok (.istore_n 3, 1) := by decide +kernel
theorem dX2_format_2 : decode cX2_format 2 = .ok (.iload_n 3, 1) := by decide +kernel
theorem dX2_format_3 : decode cX2_format 3 = .ok (.iload_n 1, 1) := by decide +kernel
theorem dX2_format_4 : decode cX2_format 4 = .ok (.if_icmp .ge 45, 3) := by decide +kernel
theorem dX2_format_7 : decode cX2_format 7 = .ok (.sipush 640, 3) := by decide +kernel
theorem dX2_format_10 : decode cX2_format 10 = .ok (.iload_n 3, 1) := by decide +kernel
theorem dX2_format_11 : decode cX2_format 11 = .ok (.bipush 64, 2) := by decide +kernel
theorem dX2_format_13 : decode cX2_format 13 = .ok (.idiv, 1) := by decide +kernel
theorem dX2_format_14 : decode cX2_format 14 = .ok (.iadd, 1) := by decide +kernel
theorem dX2_format_15 : decode cX2_format 15 = .ok (.istore 4, 2) := by decide +kernel
theorem dX2_format_17 : decode cX2_format 17 = .ok (.iload 4, 2) := by decide +kernel
theorem dX2_format_19 : decode cX2_format 19 = .ok (.aload_n 0, 1) := by decide +kernel
theorem dX2_format_20 : decode cX2_format 20 = .ok (.getfield 39, 3) := by decide +kernel
theorem dX2_format_23 : decode cX2_format 23 = .ok (.arraylength, 1) := by decide +kernel
theorem dX2_format_24 : decode cX2_format 24 = .ok (.if_icmp .ge 19, 3) := by decide +kernel
theorem dX2_format_27 : decode cX2_format 27 = .ok (.aload_n 0, 1) := by decide +kernel
theorem dX2_format_28 : decode cX2_format 28 = .ok (.getfield 39, 3) := by decide +kernel
theorem dX2_format_31 : decode cX2_format 31 = .ok (.iload 4, 2) := by decide +kernel
theorem dX2_format_33 : decode cX2_format 33 = .ok (.dup2, 1) := by decide +kernel
theorem dX2_format_34 : decode cX2_format 34 = .ok (.laload, 1) := by decide +kernel
theorem dX2_format_35 : decode cX2_format 35 = .ok (.lconst 1, 1) := by decide +kernel
theorem dX2_format_36 : decode cX2_format 36 = .ok (.iload_n 3, 1) := by decide +kernel
theorem dX2_format_37 : decode cX2_format 37 = .ok (.bipush 64, 2) := by decide +kernel
theorem dX2_format_39 : decode cX2_format 39 = .ok (.irem, 1) := by decide +kernel
theorem dX2_format_40 : decode cX2_format 40 = .ok (.lshl, 1) := by decide +kernel
theorem dX2_format_41 : decode cX2_format 41 = .ok (.lor, 1) := by decide +kernel
theorem dX2_format_42 : decode cX2_format 42 = .ok (.lastore, 1) := by decide +kernel
theorem dX2_format_43 : decode cX2_format 43 = .ok (.iinc 3 1, 3) := by decide +kernel
theorem dX2_format_46 : decode cX2_format 46 = .ok (.goto (-44), 3) := by decide +kernel
theorem dX2_format_49 : decode cX2_format 49 = .ok (.iload_n 2, 1) := by decide +kernel
theorem dX2_format_50 : decode cX2_format 50 = .ok (.ifCond .lt 23, 3) := by decide +kernel
theorem dX2_format_53 : decode cX2_format 53 = .ok (.iload_n 2, 1) := by decide +kernel
theorem dX2_format_54 : decode cX2_format 54 = .ok (.aload_n 0, 1) := by decide +kernel
theorem dX2_format_55 : decode cX2_format 55 = .ok (.getfield 33, 3) := by decide +kernel
theorem dX2_format_58 : decode cX2_format 58 = .ok (.if_icmp .ge 15, 3) := by decide +kernel
theorem dX2_format_61 : decode cX2_format 61 = .ok (.aload_n 0, 1) := by decide +kernel
theorem dX2_format_62 : decode cX2_format 62 = .ok (.getfield 39, 3) := by decide +kernel
theorem dX2_format_65 : decode cX2_format 65 = .ok (.iload_n 2, 1) := by decide +kernel
theorem dX2_format_66 : decode cX2_format 66 = .ok (.bipush 8, 2) := by decide +kernel
theorem dX2_format_68 : decode cX2_format 68 = .ok (.imul, 1) := by decide +kernel
theorem dX2_format_69 : decode cX2_format 69 = .ok (.ldc2_w 54, 3) := by decide +kernel
theorem dX2_format_72 : decode cX2_format 72 = .ok (.lastore, 1) := by decide +kernel
theorem dX2_format_73 : decode cX2_format 73 = .ok (.return_, 1) := by decide +kernel
theorem dX0_init_0 : decode cX0_init 0 = .ok (.aload_n 0, 1) := by decide +kernel
theorem dX0_init_1 : decode cX0_init 1 = .ok (.invokespecial 5, 3) := by decide +kernel
theorem dX0_init_4 : decode cX0_init 4 = .ok (.aload_n 0, 1) := by decide +kernel
theorem dX0_init_5 : decode cX0_init 5 = .ok (.aload_n 1, 1) := by decide +kernel
theorem dX0_init_6 : decode cX0_init 6 = .ok (.putfield 11, 3) := by decide +kernel
theorem dX0_init_9 : decode cX0_init 9 = .ok (.aload_n 0, 1) := by decide +kernel
theorem dX0_init_10 : decode cX0_init 10 = .ok (.aload_n 2, 1) := by decide +kernel
theorem dX0_init_11 : decode cX0_init 11 = .ok (.putfield 15, 3) := by decide +kernel
theorem dX0_init_14 : decode cX0_init 14 = .ok (.aload_n 0, 1) := by decide +kernel
theorem dX0_init_15 : decode cX0_init 15 = .ok (.aload_n 3, 1) := by decide +kernel
theorem dX0_init_16 : decode cX0_init 16 = .ok (.putfield 19, 3) := by decide +kernel
theorem dX0_init_19 : decode cX0_init 19 = .ok (.aload_n 0, 1) := by decide +kernel
theorem dX0_init_20 : decode cX0_init 20 = .ok (.iload 4, 2) := by decide +kernel
theorem dX0_init_22 : decode cX0_init 22 = .ok (.putfield 23, 3) := by decide +kernel
theorem dX0_init_25 : decode cX0_init 25 = .ok (.return_, 1) := by decide +kernel
theorem dX1_init_0 : decode cX1_init 0 = .ok (.aload_n 0, 1) := by decide +kernel
theorem dX1_init_1 : decode cX1_init 1 = .ok (.invokespecial 3, 3) := by decide +kernel
theorem dX1_init_4 : decode cX1_init 4 = .ok (.aload_n 0, 1) := by decide +kernel
theorem dX1_init_5 : decode cX1_init 5 = .ok (.aload_n 1, 1) := by decide +kernel
theorem dX1_init_6 : decode cX1_init 6 = .ok (.putfield 9, 3) := by decide +kernel
theorem dX1_init_9 : decode cX1_init 9 = .ok (.aload_n 0, 1) := by decide +kernel
theorem dX1_init_10 : decode cX1_init 10 = .ok (.aload_n 2, 1) := by decide +kernel
theorem dX1_init_11 : decode cX1_init 11 = .ok (.putfield 15, 3) := by decide +kernel
theorem dX1_init_14 : decode cX1_init 14 = .ok (.aload_n 0, 1) := by decide +kernel
theorem dX1_init_15 : decode cX1_init 15 = .ok (.aload_n 3, 1) := by decide +kernel
theorem dX1_init_16 : decode cX1_init 16 = .ok (.putfield 19, 3) := by decide +kernel
theorem dX1_init_19 : decode cX1_init 19 = .ok (.aload_n 0, 1) := by decide +kernel
theorem dX1_init_20 : decode cX1_init 20 = .ok (.aload 4, 2) := by decide +kernel
theorem dX1_init_22 : decode cX1_init 22 = .ok (.putfield 23, 3) := by decide +kernel
theorem dX1_init_25 : decode cX1_init 25 = .ok (.aload_n 0, 1) := by decide +kernel
theorem dX1_init_26 : decode cX1_init 26 = .ok (.aload_n 1, 1) := by decide +kernel
theorem dX1_init_27 : decode cX1_init 27 = .ok (.getfield 27, 3) := by decide +kernel
theorem dX1_init_30 : decode cX1_init 30 = .ok (.newarray .int, 2) := by decide +kernel
theorem dX1_init_32 : decode cX1_init 32 = .ok (.putfield 33, 3) := by decide +kernel
theorem dX1_init_35 : decode cX1_init 35 = .ok (.aload_n 0, 1) := by decide +kernel
theorem dX1_init_36 : decode cX1_init 36 = .ok (.bipush 64, 2) := by decide +kernel
theorem dX1_init_38 : decode cX1_init 38 = .ok (.newarray .int, 2) := by decide +kernel
theorem dX1_init_40 : decode cX1_init 40 = .ok (.putfield 37, 3) := by decide +kernel
theorem dX1_init_43 : decode cX1_init 43 = .ok (.aload_n 0, 1) := by decide +kernel
theorem dX1_init_44 : decode cX1_init 44 = .ok (.bipush 64, 2) := by decide +kernel
theorem dX1_init_46 : decode cX1_init 46 = .ok (.newarray .int, 2) := by decide +kernel
theorem dX1_init_48 : decode cX1_init 48 = .ok (.putfield 40, 3) := by decide +kernel
theorem dX1_init_51 : decode cX1_init 51 = .ok (.return_, 1) := by decide +kernel
theorem dX2_init_0 : decode cX2_init 0 = .ok (.aload_n 0, 1) := by decide +kernel
theorem dX2_init_1 : decode cX2_init 1 = .ok (.invokespecial 3, 3) := by decide +kernel
theorem dX2_init_4 : decode cX2_init 4 = .ok (.aload_n 0, 1) := by decide +kernel
theorem dX2_init_5 : decode cX2_init 5 = .ok (.iconst 4, 1) := by decide +kernel
theorem dX2_init_6 : decode cX2_init 6 = .ok (.bipush 8, 2) := by decide +kernel
theorem dX2_init_8 : decode cX2_init 8 = .ok (.iload_n 1, 1) := by decide +kernel
theorem dX2_init_9 : decode cX2_init 9 = .ok (.invokestatic 9, 3) := by decide +kernel
theorem dX2_init_12 : decode cX2_init 12 = .ok (.invokestatic 15, 3) := by decide +kernel
theorem dX2_init_15 : decode cX2_init 15 = .ok (.putfield 18, 3) := by decide +kernel
theorem dX2_init_18 : decode cX2_init 18 = .ok (.aload_n 0, 1) := by decide +kernel
theorem dX2_init_19 : decode cX2_init 19 = .ok (.bipush 8, 2) := by decide +kernel
theorem dX2_init_21 : decode cX2_init 21 = .ok (.bipush 32, 2) := by decide +kernel
theorem dX2_init_23 : decode cX2_init 23 = .ok (.iload_n 2, 1) := by decide +kernel
theorem dX2_init_24 : decode cX2_init 24 = .ok (.invokestatic 9, 3) := by decide +kernel
theorem dX2_init_27 : decode cX2_init 27 = .ok (.invokestatic 15, 3) := by decide +kernel
theorem dX2_init_30 : decode cX2_init 30 = .ok (.putfield 24, 3) := by decide +kernel
theorem dX2_init_33 : decode cX2_init 33 = .ok (.aload_n 0, 1) := by decide +kernel
theorem dX2_init_34 : decode cX2_init 34 = .ok (.iconst 1, 1) := by decide +kernel
theorem dX2_init_35 : decode cX2_init 35 = .ok (.iconst 4, 1) := by decide +kernel
theorem dX2_init_36 : decode cX2_init 36 = .ok (.iload_n 3, 1) := by decide +kernel
theorem dX2_init_37 : decode cX2_init 37 = .ok (.invokestatic 9, 3) := by decide +kernel
theorem dX2_init_40 : decode cX2_init 40 = .ok (.invokestatic 15, 3) := by decide +kernel
theorem dX2_init_43 : decode cX2_init 43 = .ok (.putfield 27, 3) := by decide +kernel
theorem dX2_init_46 : decode cX2_init 46 = .ok (.aload_n 0, 1) := by decide +kernel
theorem dX2_init_47 : decode cX2_init 47 = .ok (.bipush 8, 2) := by decide +kernel
theorem dX2_init_49 : decode cX2_init 49 = .ok (.aload_n 0, 1) := by decide +kernel
theorem dX2_init_50 : decode cX2_init 50 = .ok (.getfield 24, 3) := by decide +kernel
theorem dX2_init_53 : decode cX2_init 53 = .ok (.imul, 1) := by decide +kernel
theorem dX2_init_54 : decode cX2_init 54 = .ok (.putfield 30, 3) := by decide +kernel
theorem dX2_init_57 : decode cX2_init 57 = .ok (.aload_n 0, 1) := by decide +kernel
theorem dX2_init_58 : decode cX2_init 58 = .ok (.aload_n 0, 1) := by decide +kernel
theorem dX2_init_59 : decode cX2_init 59 = .ok (.getfield 18, 3) := by decide +kernel
theorem dX2_init_62 : decode cX2_init 62 = .ok (.aload_n 0, 1) := by decide +kernel
theorem dX2_init_63 : decode cX2_init 63 = .ok (.getfield 30, 3) := by decide +kernel
theorem dX2_init_66 : decode cX2_init 66 = .ok (.imul, 1) := by decide +kernel
theorem dX2_init_67 : decode cX2_init 67 = .ok (.putfield 33, 3) := by decide +kernel
theorem dX2_init_70 : decode cX2_init 70 = .ok (.aload_n 0, 1) := by decide +kernel
theorem dX2_init_71 : decode cX2_init 71 = .ok (.bipush 64, 2) := by decide +kernel
theorem dX2_init_73 : decode cX2_init 73 = .ok (.sipush 256, 3) := by decide +kernel
theorem dX2_init_76 : decode cX2_init 76 = .ok (.iload 4, 2) := by decide +kernel
theorem dX2_init_78 : decode cX2_init 78 = .ok (.invokestatic 9, 3) := by decide +kernel
theorem dX2_init_81 : decode cX2_init 81 = .ok (.invokestatic 15, 3) := by decide +kernel
theorem dX2_init_84 : decode cX2_init 84 = .ok (.putfield 36, 3) := by decide +kernel
theorem dX2_init_87 : decode cX2_init 87 = .ok (.aload_n 0, 1) := by decide +kernel
theorem dX2_init_88 : decode cX2_init 88 = .ok (.aload_n 0, 1) := by decide +kernel
theorem dX2_init_89 : decode cX2_init 89 = .ok (.getfield 33, 3) := by decide +kernel
theorem dX2_init_92 : decode cX2_init 92 = .ok (.aload_n 0, 1) := by decide +kernel
theorem dX2_init_93 : decode cX2_init 93 = .ok (.getfield 30, 3) := by decide +kernel
theorem dX2_init_96 : decode cX2_init 96 = .ok (.iadd, 1) := by decide +kernel
theorem dX2_init_97 : decode cX2_init 97 = .ok (.aload_n 0, 1) := by decide +kernel
theorem dX2_init_98 : decode cX2_init 98 = .ok (.getfield 36, 3) := by decide +kernel
theorem dX2_init_101 : decode cX2_init 101 = .ok (.iadd, 1) := by decide +kernel
theorem dX2_init_102 : decode cX2_init 102 = .ok (.bipush 8, 2) := by decide +kernel
theorem dX2_init_104 : decode cX2_init 104 = .ok (.imul, 1) := by decide +kernel
theorem dX2_init_105 : decode cX2_init 105 = .ok (.newarray .long, 2) := by decide +kernel
theorem dX2_init_107 : decode cX2_init 107 = .ok (.putfield 39, 3) := by decide +kernel
theorem dX2_init_110 : decode cX2_init 110 = .ok (.aload_n 0, 1) := by decide +kernel
theorem dX2_init_111 : decode cX2_init 111 = .ok (.aload_n 0, 1) := by decide +kernel
theorem dX2_init_112 : decode cX2_init 112 = .ok (.getfield 33, 3) := by decide +kernel
theorem dX2_init_115 : decode cX2_init 115 = .ok (.aload_n 0, 1) := by decide +kernel
theorem dX2_init_116 : decode cX2_init 116 = .ok (.getfield 30, 3) := by decide +kernel
theorem dX2_init_119 : decode cX2_init 119 = .ok (.iadd, 1) := by decide +kernel
theorem dX2_init_120 : decode cX2_init 120 = .ok (.newarray .boolean, 2) := by decide +kernel
theorem dX2_init_122 : decode cX2_init 122 = .ok (.putfield 43, 3) := by decide +kernel
theorem dX2_init_125 : decode cX2_init 125 = .ok (.aload_n 0, 1) := by decide +kernel
theorem dX2_init_126 : decode cX2_init 126 = .ok (.iconst 1, 1) := by decide +kernel
theorem dX2_init_127 : decode cX2_init 127 = .ok (.putfield 47, 3) := by decide +kernel
theorem dX2_init_130 : decode cX2_init 130 = .ok (.aload_n 0, 1) := by decide +kernel
theorem dX2_init_131 : decode cX2_init 131 = .ok (.iconst (-1), 1) := by decide +kernel
theorem dX2_init_132 : decode cX2_init 132 = .ok (.putfield 51, 3) := by decide +kernel
theorem dX2_init_135 : decode cX2_init 135 = .ok (.return_, 1) := by decide +kernel
theorem dX3_init_0 : decode cX3_init 0 = .ok (.aload_n 0, 1) := by decide +kernel
theorem dX3_init_1 : decode cX3_init 1 = .ok (.invokespecial 3, 3) := by decide +kernel
theorem dX3_init_4 : decode cX3_init 4 = .ok (.aload_n 0, 1) := by decide +kernel
theorem dX3_init_5 : decode cX3_init 5 = .ok (.aload_n 1, 1) := by decide +kernel
theorem dX3_init_6 : decode cX3_init 6 = .ok (.putfield 9, 3) := by decide +kernel
theorem dX3_init_9 : decode cX3_init 9 = .ok (.aload_n 0, 1) := by decide +kernel
theorem dX3_init_10 : decode cX3_init 10 = .ok (.aload_n 2, 1) := by decide +kernel
theorem dX3_init_11 : decode cX3_init 11 = .ok (.putfield 15, 3) := by decide +kernel
theorem dX3_init_14 : decode cX3_init 14 = .ok (.aload_n 0, 1) := by decide +kernel
theorem dX3_init_15 : decode cX3_init 15 = .ok (.aload_n 3, 1) := by decide +kernel
theorem dX3_init_16 : decode cX3_init 16 = .ok (.putfield 19, 3) := by decide +kernel
theorem dX3_init_19 : decode cX3_init 19 = .ok (.aload_n 0, 1) := by decide +kernel
theorem dX3_init_20 : decode cX3_init 20 = .ok (.bipush 48, 2) := by decide +kernel
theorem dX3_init_22 : decode cX3_init 22 = .ok (.newarray .long, 2) := by decide +kernel
theorem dX3_init_24 : decode cX3_init 24 = .ok (.putfield 23, 3) := by decide +kernel
theorem dX3_init_27 : decode cX3_init 27 = .ok (.aload_n 0, 1) := by decide +kernel
theorem dX3_init_28 : decode cX3_init 28 = .ok (.bipush 48, 2) := by decide +kernel
theorem dX3_init_30 : decode cX3_init 30 = .ok (.newarray .int, 2) := by decide +kernel
theorem dX3_init_32 : decode cX3_init 32 = .ok (.putfield 27, 3) := by decide +kernel
theorem dX3_init_35 : decode cX3_init 35 = .ok (.return_, 1) := by decide +kernel
theorem dX4_init_0 : decode cX4_init 0 = .ok (.aload_n 0, 1) := by decide +kernel
theorem dX4_init_1 : decode cX4_init 1 = .ok (.invokespecial 3, 3) := by decide +kernel
theorem dX4_init_4 : decode cX4_init 4 = .ok (.aload_n 0, 1) := by decide +kernel
theorem dX4_init_5 : decode cX4_init 5 = .ok (.aload_n 1, 1) := by decide +kernel
theorem dX4_init_6 : decode cX4_init 6 = .ok (.putfield 9, 3) := by decide +kernel
theorem dX4_init_9 : decode cX4_init 9 = .ok (.aload_n 0, 1) := by decide +kernel
theorem dX4_init_10 : decode cX4_init 10 = .ok (.iload_n 2, 1) := by decide +kernel
theorem dX4_init_11 : decode cX4_init 11 = .ok (.putfield 15, 3) := by decide +kernel
theorem dX4_init_14 : decode cX4_init 14 = .ok (.return_, 1) := by decide +kernel
theorem dX5_init_0 : decode cX5_init 0 = .ok (.aload_n 0, 1) := by decide +kernel
theorem dX5_init_1 : decode cX5_init 1 = .ok (.invokespecial 3, 3) := by decide +kernel
theorem dX5_init_4 : decode cX5_init 4 = .ok (.aload_n 0, 1) := by decide +kernel
theorem dX5_init_5 : decode cX5_init 5 = .ok (.aload_n 2, 1) := by decide +kernel
theorem dX5_init_6 : decode cX5_init 6 = .ok (.putfield 9, 3) := by decide +kernel
theorem dX5_init_9 : decode cX5_init 9 = .ok (.aload_n 0, 1) := by decide +kernel
theorem dX5_init_10 : decode cX5_init 10 = .ok (.aload_n 1, 1) := by decide +kernel
theorem dX5_init_11 : decode cX5_init 11 = .ok (.getfield 15, 3) := by decide +kernel
theorem dX5_init_14 : decode cX5_init 14 = .ok (.putfield 21, 3) := by decide +kernel
theorem dX5_init_17 : decode cX5_init 17 = .ok (.aload_n 0, 1) := by decide +kernel
theorem dX5_init_18 : decode cX5_init 18 = .ok (.aload_n 1, 1) := by decide +kernel
theorem dX5_init_19 : decode cX5_init 19 = .ok (.getfield 22, 3) := by decide +kernel
theorem dX5_init_22 : decode cX5_init 22 = .ok (.putfield 25, 3) := by decide +kernel
theorem dX5_init_25 : decode cX5_init 25 = .ok (.aload_n 0, 1) := by decide +kernel
theorem dX5_init_26 : decode cX5_init 26 = .ok (.aload_n 0, 1) := by decide +kernel
theorem dX5_init_27 : decode cX5_init 27 = .ok (.getfield 21, 3) := by decide +kernel
theorem dX5_init_30 : decode cX5_init 30 = .ok (.bipush 63, 2) := by decide +kernel
theorem dX5_init_32 : decode cX5_init 32 = .ok (.iadd, 1) := by decide +kernel
theorem dX5_init_33 : decode cX5_init 33 = .ok (.bipush 64, 2) := by decide +kernel
theorem dX5_init_35 : decode cX5_init 35 = .ok (.idiv, 1) := by decide +kernel
theorem dX5_init_36 : decode cX5_init 36 = .ok (.putfield 26, 3) := by decide +kernel
theorem dX5_init_39 : decode cX5_init 39 = .ok (.aload_n 0, 1) := by decide +kernel
theorem dX5_init_40 : decode cX5_init 40 = .ok (.bipush 80, 2) := by decide +kernel
theorem dX5_init_42 : decode cX5_init 42 = .ok (.aload_n 0, 1) := by decide +kernel
theorem dX5_init_43 : decode cX5_init 43 = .ok (.getfield 21, 3) := by decide +kernel
theorem dX5_init_46 : decode cX5_init 46 = .ok (.sipush 511, 3) := by decide +kernel
theorem dX5_init_49 : decode cX5_init 49 = .ok (.iadd, 1) := by decide +kernel
theorem dX5_init_50 : decode cX5_init 50 = .ok (.sipush 512, 3) := by decide +kernel
theorem dX5_init_53 : decode cX5_init 53 = .ok (.idiv, 1) := by decide +kernel
theorem dX5_init_54 : decode cX5_init 54 = .ok (.iadd, 1) := by decide +kernel
theorem dX5_init_55 : decode cX5_init 55 = .ok (.putfield 29, 3) := by decide +kernel
theorem dX5_init_58 : decode cX5_init 58 = .ok (.aload_n 0, 1) := by decide +kernel
theorem dX5_init_59 : decode cX5_init 59 = .ok (.aload_n 0, 1) := by decide +kernel
theorem dX5_init_60 : decode cX5_init 60 = .ok (.getfield 29, 3) := by decide +kernel
theorem dX5_init_63 : decode cX5_init 63 = .ok (.bipush 64, 2) := by decide +kernel
theorem dX5_init_65 : decode cX5_init 65 = .ok (.iadd, 1) := by decide +kernel
theorem dX5_init_66 : decode cX5_init 66 = .ok (.putfield 32, 3) := by decide +kernel
theorem dX5_init_69 : decode cX5_init 69 = .ok (.return_, 1) := by decide +kernel
theorem dX6_init_0 : decode cX6_init 0 = .ok (.aload_n 0, 1) := by decide +kernel
theorem dX6_init_1 : decode cX6_init 1 = .ok (.invokespecial 3, 3) := by decide +kernel
theorem dX6_init_4 : decode cX6_init 4 = .ok (.aload_n 0, 1) := by decide +kernel
theorem dX6_init_5 : decode cX6_init 5 = .ok (.aload_n 1, 1) := by decide +kernel
theorem dX6_init_6 : decode cX6_init 6 = .ok (.putfield 9, 3) := by decide +kernel
theorem dX6_init_9 : decode cX6_init 9 = .ok (.aload_n 0, 1) := by decide +kernel
theorem dX6_init_10 : decode cX6_init 10 = .ok (.aload_n 2, 1) := by decide +kernel
theorem dX6_init_11 : decode cX6_init 11 = .ok (.putfield 15, 3) := by decide +kernel
theorem dX6_init_14 : decode cX6_init 14 = .ok (.aload_n 0, 1) := by decide +kernel
theorem dX6_init_15 : decode cX6_init 15 = .ok (.aload_n 1, 1) := by decide +kernel
theorem dX6_init_16 : decode cX6_init 16 = .ok (.getfield 19, 3) := by decide +kernel
theorem dX6_init_19 : decode cX6_init 19 = .ok (.bipush 8, 2) := by decide +kernel
theorem dX6_init_21 : decode cX6_init 21 = .ok (.imul, 1) := by decide +kernel
theorem dX6_init_22 : decode cX6_init 22 = .ok (.newarray .long, 2) := by decide +kernel
theorem dX6_init_24 : decode cX6_init 24 = .ok (.putfield 25, 3) := by decide +kernel
theorem dX6_init_27 : decode cX6_init 27 = .ok (.aload_n 0, 1) := by decide +kernel
theorem dX6_init_28 : decode cX6_init 28 = .ok (.aload_n 1, 1) := by decide +kernel
theorem dX6_init_29 : decode cX6_init 29 = .ok (.getfield 19, 3) := by decide +kernel
theorem dX6_init_32 : decode cX6_init 32 = .ok (.newarray .boolean, 2) := by decide +kernel
theorem dX6_init_34 : decode cX6_init 34 = .ok (.putfield 29, 3) := by decide +kernel
theorem dX6_init_37 : decode cX6_init 37 = .ok (.aload_n 0, 1) := by decide +kernel
theorem dX6_init_38 : decode cX6_init 38 = .ok (.aload_n 1, 1) := by decide +kernel
theorem dX6_init_39 : decode cX6_init 39 = .ok (.getfield 19, 3) := by decide +kernel
theorem dX6_init_42 : decode cX6_init 42 = .ok (.newarray .int, 2) := by decide +kernel
theorem dX6_init_44 : decode cX6_init 44 = .ok (.putfield 33, 3) := by decide +kernel
theorem dX6_init_47 : decode cX6_init 47 = .ok (.aload_n 0, 1) := by decide +kernel
theorem dX6_init_48 : decode cX6_init 48 = .ok (.bipush 8, 2) := by decide +kernel
theorem dX6_init_50 : decode cX6_init 50 = .ok (.newarray .long, 2) := by decide +kernel
theorem dX6_init_52 : decode cX6_init 52 = .ok (.putfield 37, 3) := by decide +kernel
theorem dX6_init_55 : decode cX6_init 55 = .ok (.return_, 1) := by decide +kernel
theorem dX7_init_0 : decode cX7_init 0 = .ok (.aload_n 0, 1) := by decide +kernel
theorem dX7_init_1 : decode cX7_init 1 = .ok (.invokespecial 1, 3) := by decide +kernel
theorem dX7_init_4 : decode cX7_init 4 = .ok (.aload_n 0, 1) := by decide +kernel
theorem dX7_init_5 : decode cX7_init 5 = .ok (.iload_n 1, 1) := by decide +kernel
theorem dX7_init_6 : decode cX7_init 6 = .ok (.newarray .int, 2) := by decide +kernel
theorem dX7_init_8 : decode cX7_init 8 = .ok (.putfield 7, 3) := by decide +kernel
theorem dX7_init_11 : decode cX7_init 11 = .ok (.return_, 1) := by decide +kernel
theorem dX8_init_0 : decode cX8_init 0 = .ok (.aload_n 0, 1) := by decide +kernel
theorem dX8_init_1 : decode cX8_init 1 = .ok (.invokespecial 3, 3) := by decide +kernel
theorem dX8_init_4 : decode cX8_init 4 = .ok (.aload_n 0, 1) := by decide +kernel
theorem dX8_init_5 : decode cX8_init 5 = .ok (.aload_n 1, 1) := by decide +kernel
theorem dX8_init_6 : decode cX8_init 6 = .ok (.putfield 9, 3) := by decide +kernel
theorem dX8_init_9 : decode cX8_init 9 = .ok (.aload_n 0, 1) := by decide +kernel
theorem dX8_init_10 : decode cX8_init 10 = .ok (.aload_n 1, 1) := by decide +kernel
theorem dX8_init_11 : decode cX8_init 11 = .ok (.getfield 15, 3) := by decide +kernel
theorem dX8_init_14 : decode cX8_init 14 = .ok (.newarray .int, 2) := by decide +kernel
theorem dX8_init_16 : decode cX8_init 16 = .ok (.putfield 21, 3) := by decide +kernel
theorem dX8_init_19 : decode cX8_init 19 = .ok (.aload_n 0, 1) := by decide +kernel
theorem dX8_init_20 : decode cX8_init 20 = .ok (.aload_n 1, 1) := by decide +kernel
theorem dX8_init_21 : decode cX8_init 21 = .ok (.getfield 15, 3) := by decide +kernel
theorem dX8_init_24 : decode cX8_init 24 = .ok (.newarray .int, 2) := by decide +kernel
theorem dX8_init_26 : decode cX8_init 26 = .ok (.putfield 25, 3) := by decide +kernel
theorem dX8_init_29 : decode cX8_init 29 = .ok (.aload_n 0, 1) := by decide +kernel
theorem dX8_init_30 : decode cX8_init 30 = .ok (.aload_n 1, 1) := by decide +kernel
theorem dX8_init_31 : decode cX8_init 31 = .ok (.getfield 28, 3) := by decide +kernel
theorem dX8_init_34 : decode cX8_init 34 = .ok (.newarray .int, 2) := by decide +kernel
theorem dX8_init_36 : decode cX8_init 36 = .ok (.putfield 31, 3) := by decide +kernel
theorem dX8_init_39 : decode cX8_init 39 = .ok (.aload_n 0, 1) := by decide +kernel
theorem dX8_init_40 : decode cX8_init 40 = .ok (.aload_n 1, 1) := by decide +kernel
theorem dX8_init_41 : decode cX8_init 41 = .ok (.getfield 34, 3) := by decide +kernel
theorem dX8_init_44 : decode cX8_init 44 = .ok (.newarray .int, 2) := by decide +kernel
theorem dX8_init_46 : decode cX8_init 46 = .ok (.putfield 37, 3) := by decide +kernel
theorem dX8_init_49 : decode cX8_init 49 = .ok (.aload_n 0, 1) := by decide +kernel
theorem dX8_init_50 : decode cX8_init 50 = .ok (.bipush 8, 2) := by decide +kernel
theorem dX8_init_52 : decode cX8_init 52 = .ok (.newarray .long, 2) := by decide +kernel
theorem dX8_init_54 : decode cX8_init 54 = .ok (.putfield 40, 3) := by decide +kernel
theorem dX8_init_57 : decode cX8_init 57 = .ok (.aload_n 0, 1) := by decide +kernel
theorem dX8_init_58 : decode cX8_init 58 = .ok (.new 44, 3) := by decide +kernel
theorem dX8_init_61 : decode cX8_init 61 = .ok (.dup, 1) := by decide +kernel
theorem dX8_init_62 : decode cX8_init 62 = .ok (.iconst 0, 1) := by decide +kernel
theorem dX8_init_63 : decode cX8_init 63 = .ok (.invokespecial 46, 3) := by decide +kernel
theorem dX8_init_66 : decode cX8_init 66 = .ok (.putfield 49, 3) := by decide +kernel
theorem dX8_init_69 : decode cX8_init 69 = .ok (.aload_n 0, 1) := by decide +kernel
theorem dX8_init_70 : decode cX8_init 70 = .ok (.getfield 37, 3) := by decide +kernel
theorem dX8_init_73 : decode cX8_init 73 = .ok (.iconst (-1), 1) := by decide +kernel
theorem dX8_init_74 : decode cX8_init 74 = .ok (.invokestatic 53, 3) := by decide +kernel
theorem dX8_init_77 : decode cX8_init 77 = .ok (.aload_n 0, 1) := by decide +kernel
theorem dX8_init_78 : decode cX8_init 78 = .ok (.iconst (-1), 1) := by decide +kernel
theorem dX8_init_79 : decode cX8_init 79 = .ok (.putfield 59, 3) := by decide +kernel
theorem dX8_init_82 : decode cX8_init 82 = .ok (.aload_n 0, 1) := by decide +kernel
theorem dX8_init_83 : decode cX8_init 83 = .ok (.iconst (-1), 1) := by decide +kernel
theorem dX8_init_84 : decode cX8_init 84 = .ok (.putfield 62, 3) := by decide +kernel
theorem dX8_init_87 : decode cX8_init 87 = .ok (.return_, 1) := by decide +kernel
theorem dX9_init_0 : decode cX9_init 0 = .ok (.aload_n 0, 1) := by decide +kernel
theorem dX9_init_1 : decode cX9_init 1 = .ok (.invokespecial 3, 3) := by decide +kernel
theorem dX9_init_4 : decode cX9_init 4 = .ok (.aload_n 0, 1) := by decide +kernel
theorem dX9_init_5 : decode cX9_init 5 = .ok (.aload_n 1, 1) := by decide +kernel
theorem dX9_init_6 : decode cX9_init 6 = .ok (.putfield 9, 3) := by decide +kernel
theorem dX9_init_9 : decode cX9_init 9 = .ok (.aload_n 0, 1) := by decide +kernel
theorem dX9_init_10 : decode cX9_init 10 = .ok (.aload_n 2, 1) := by decide +kernel
theorem dX9_init_11 : decode cX9_init 11 = .ok (.putfield 15, 3) := by decide +kernel
theorem dX9_init_14 : decode cX9_init 14 = .ok (.aload_n 0, 1) := by decide +kernel
theorem dX9_init_15 : decode cX9_init 15 = .ok (.aload_n 3, 1) := by decide +kernel
theorem dX9_init_16 : decode cX9_init 16 = .ok (.putfield 19, 3) := by decide +kernel
theorem dX9_init_19 : decode cX9_init 19 = .ok (.aload_n 0, 1) := by decide +kernel
theorem dX9_init_20 : decode cX9_init 20 = .ok (.aload 4, 2) := by decide +kernel
theorem dX9_init_22 : decode cX9_init 22 = .ok (.putfield 23, 3) := by decide +kernel
theorem dX9_init_25 : decode cX9_init 25 = .ok (.aload_n 0, 1) := by decide +kernel
theorem dX9_init_26 : decode cX9_init 26 = .ok (.bipush 9, 2) := by decide +kernel
theorem dX9_init_28 : decode cX9_init 28 = .ok (.newarray .int, 2) := by decide +kernel
theorem dX9_init_30 : decode cX9_init 30 = .ok (.putfield 27, 3) := by decide +kernel
theorem dX9_init_33 : decode cX9_init 33 = .ok (.aload_n 0, 1) := by decide +kernel
theorem dX9_init_34 : decode cX9_init 34 = .ok (.bipush 9, 2) := by decide +kernel
theorem dX9_init_36 : decode cX9_init 36 = .ok (.newarray .int, 2) := by decide +kernel
theorem dX9_init_38 : decode cX9_init 38 = .ok (.putfield 31, 3) := by decide +kernel
theorem dX9_init_41 : decode cX9_init 41 = .ok (.return_, 1) := by decide +kernel
theorem dX10_init_0 : decode cX10_init 0 = .ok (.aload_n 0, 1) := by decide +kernel
theorem dX10_init_1 : decode cX10_init 1 = .ok (.invokespecial 1, 3) := by decide +kernel
theorem dX10_init_4 : decode cX10_init 4 = .ok (.new 7, 3) := by decide +kernel
theorem dX10_init_7 : decode cX10_init 7 = .ok (.dup, 1) := by decide +kernel
theorem dX10_init_8 : decode cX10_init 8 = .ok (.iload_n 1, 1) := by decide +kernel
theorem dX10_init_9 : decode cX10_init 9 = .ok (.iload_n 2, 1) := by decide +kernel
theorem dX10_init_10 : decode cX10_init 10 = .ok (.iload_n 3, 1) := by decide +kernel
theorem dX10_init_11 : decode cX10_init 11 = .ok (.iload 4, 2) := by decide +kernel
theorem dX10_init_13 : decode cX10_init 13 = .ok (.invokespecial 9, 3) := by decide +kernel
theorem dX10_init_16 : decode cX10_init 16 = .ok (.astore 5, 2) := by decide +kernel
theorem dX10_init_18 : decode cX10_init 18 = .ok (.new 12, 3) := by decide +kernel
theorem dX10_init_21 : decode cX10_init 21 = .ok (.dup, 1) := by decide +kernel
theorem dX10_init_22 : decode cX10_init 22 = .ok (.aload 5, 2) := by decide +kernel
theorem dX10_init_24 : decode cX10_init 24 = .ok (.invokespecial 14, 3) := by decide +kernel
theorem dX10_init_27 : decode cX10_init 27 = .ok (.astore 6, 2) := by decide +kernel
theorem dX10_init_29 : decode cX10_init 29 = .ok (.new 17, 3) := by decide +kernel
theorem dX10_init_32 : decode cX10_init 32 = .ok (.dup, 1) := by decide +kernel
theorem dX10_init_33 : decode cX10_init 33 = .ok (.aload 5, 2) := by decide +kernel
theorem dX10_init_35 : decode cX10_init 35 = .ok (.aload 6, 2) := by decide +kernel
theorem dX10_init_37 : decode cX10_init 37 = .ok (.invokespecial 19, 3) := by decide +kernel
theorem dX10_init_40 : decode cX10_init 40 = .ok (.astore 7, 2) := by decide +kernel
theorem dX10_init_42 : decode cX10_init 42 = .ok (.new 22, 3) := by decide +kernel
theorem dX10_init_45 : decode cX10_init 45 = .ok (.dup, 1) := by decide +kernel
theorem dX10_init_46 : decode cX10_init 46 = .ok (.aload 5, 2) := by decide +kernel
theorem dX10_init_48 : decode cX10_init 48 = .ok (.aload 7, 2) := by decide +kernel
theorem dX10_init_50 : decode cX10_init 50 = .ok (.invokespecial 24, 3) := by decide +kernel
theorem dX10_init_53 : decode cX10_init 53 = .ok (.astore 8, 2) := by decide +kernel
theorem dX10_init_55 : decode cX10_init 55 = .ok (.new 27, 3) := by decide +kernel
theorem dX10_init_58 : decode cX10_init 58 = .ok (.dup, 1) := by decide +kernel
theorem dX10_init_59 : decode cX10_init 59 = .ok (.aload 7, 2) := by decide +kernel
theorem dX10_init_61 : decode cX10_init 61 = .ok (.aload 8, 2) := by decide +kernel
theorem dX10_init_63 : decode cX10_init 63 = .ok (.getfield 29, 3) := by decide +kernel
theorem dX10_init_66 : decode cX10_init 66 = .ok (.invokespecial 33, 3) := by decide +kernel
theorem dX10_init_69 : decode cX10_init 69 = .ok (.astore 9, 2) := by decide +kernel
theorem dX10_init_71 : decode cX10_init 71 = .ok (.new 36, 3) := by decide +kernel
theorem dX10_init_74 : decode cX10_init 74 = .ok (.dup, 1) := by decide +kernel
theorem dX10_init_75 : decode cX10_init 75 = .ok (.aload 7, 2) := by decide +kernel
theorem dX10_init_77 : decode cX10_init 77 = .ok (.aload 8, 2) := by decide +kernel
theorem dX10_init_79 : decode cX10_init 79 = .ok (.aload 9, 2) := by decide +kernel
theorem dX10_init_81 : decode cX10_init 81 = .ok (.invokespecial 38, 3) := by decide +kernel
theorem dX10_init_84 : decode cX10_init 84 = .ok (.astore 10, 2) := by decide +kernel
theorem dX10_init_86 : decode cX10_init 86 = .ok (.new 41, 3) := by decide +kernel
theorem dX10_init_89 : decode cX10_init 89 = .ok (.dup, 1) := by decide +kernel
theorem dX10_init_90 : decode cX10_init 90 = .ok (.sipush 1280, 3) := by decide +kernel
theorem dX10_init_93 : decode cX10_init 93 = .ok (.invokespecial 43, 3) := by decide +kernel
theorem dX10_init_96 : decode cX10_init 96 = .ok (.astore 11, 2) := by decide +kernel
theorem dX10_init_98 : decode cX10_init 98 = .ok (.aload 5, 2) := by decide +kernel
theorem dX10_init_100 : decode cX10_init 100 = .ok (.aload 8, 2) := by decide +kernel
theorem dX10_init_102 : decode cX10_init 102 = .ok (.getfield 46, 3) := by decide +kernel
theorem dX10_init_105 : decode cX10_init 105 = .ok (.aload 8, 2) := by decide +kernel
theorem dX10_init_107 : decode cX10_init 107 = .ok (.getfield 29, 3) := by decide +kernel
theorem dX10_init_110 : decode cX10_init 110 = .ok (.invokevirtual 49, 3) := by decide +kernel
theorem dX10_init_113 : decode cX10_init 113 = .ok (.aload_n 0, 1) := by decide +kernel
theorem dX10_init_114 : decode cX10_init 114 = .ok (.aload 5, 2) := by decide +kernel
theorem dX10_init_116 : decode cX10_init 116 = .ok (.putfield 53, 3) := by decide +kernel
theorem dX10_init_119 : decode cX10_init 119 = .ok (.aload_n 0, 1) := by decide +kernel
theorem dX10_init_120 : decode cX10_init 120 = .ok (.aload 6, 2) := by decide +kernel
theorem dX10_init_122 : decode cX10_init 122 = .ok (.putfield 59, 3) := by decide +kernel
theorem dX10_init_125 : decode cX10_init 125 = .ok (.aload_n 0, 1) := by decide +kernel
theorem dX10_init_126 : decode cX10_init 126 = .ok (.aload 7, 2) := by decide +kernel
theorem dX10_init_128 : decode cX10_init 128 = .ok (.putfield 63, 3) := by decide +kernel
theorem dX10_init_131 : decode cX10_init 131 = .ok (.aload_n 0, 1) := by decide +kernel
theorem dX10_init_132 : decode cX10_init 132 = .ok (.aload 8, 2) := by decide +kernel
theorem dX10_init_134 : decode cX10_init 134 = .ok (.putfield 67, 3) := by decide +kernel
theorem dX10_init_137 : decode cX10_init 137 = .ok (.aload_n 0, 1) := by decide +kernel
theorem dX10_init_138 : decode cX10_init 138 = .ok (.aload 9, 2) := by decide +kernel
theorem dX10_init_140 : decode cX10_init 140 = .ok (.putfield 71, 3) := by decide +kernel
theorem dX10_init_143 : decode cX10_init 143 = .ok (.aload_n 0, 1) := by decide +kernel
theorem dX10_init_144 : decode cX10_init 144 = .ok (.aload 10, 2) := by decide +kernel
theorem dX10_init_146 : decode cX10_init 146 = .ok (.putfield 75, 3) := by decide +kernel
theorem dX10_init_149 : decode cX10_init 149 = .ok (.aload_n 0, 1) := by decide +kernel
theorem dX10_init_150 : decode cX10_init 150 = .ok (.aload 11, 2) := by decide +kernel
theorem dX10_init_152 : decode cX10_init 152 = .ok (.putfield 79, 3) := by decide +kernel
theorem dX10_init_155 : decode cX10_init 155 = .ok (.aload_n 0, 1) := by decide +kernel
theorem dX10_init_156 : decode cX10_init 156 = .ok (.new 83, 3) := by decide +kernel
theorem dX10_init_159 : decode cX10_init 159 = .ok (.dup, 1) := by decide +kernel
theorem dX10_init_160 : decode cX10_init 160 = .ok (.aload 7, 2) := by decide +kernel
theorem dX10_init_162 : decode cX10_init 162 = .ok (.aload 8, 2) := by decide +kernel
theorem dX10_init_164 : decode cX10_init 164 = .ok (.aload 9, 2) := by decide +kernel
theorem dX10_init_166 : decode cX10_init 166 = .ok (.aload 5, 2) := by decide +kernel
theorem dX10_init_168 : decode cX10_init 168 = .ok (.getfield 85, 3) := by decide +kernel
theorem dX10_init_171 : decode cX10_init 171 = .ok (.invokespecial 88, 3) := by decide +kernel
theorem dX10_init_174 : decode cX10_init 174 = .ok (.putfield 91, 3) := by decide +kernel
theorem dX10_init_177 : decode cX10_init 177 = .ok (.aload_n 0, 1) := by decide +kernel
theorem dX10_init_178 : decode cX10_init 178 = .ok (.new 95, 3) := by decide +kernel
theorem dX10_init_181 : decode cX10_init 181 = .ok (.dup, 1) := by decide +kernel
theorem dX10_init_182 : decode cX10_init 182 = .ok (.aload 7, 2) := by decide +kernel
theorem dX10_init_184 : decode cX10_init 184 = .ok (.aload 9, 2) := by decide +kernel
theorem dX10_init_186 : decode cX10_init 186 = .ok (.aload 10, 2) := by decide +kernel
theorem dX10_init_188 : decode cX10_init 188 = .ok (.aload 11, 2) := by decide +kernel
theorem dX10_init_190 : decode cX10_init 190 = .ok (.invokespecial 97, 3) := by decide +kernel
theorem dX10_init_193 : decode cX10_init 193 = .ok (.putfield 100, 3) := by decide +kernel
theorem dX10_init_196 : decode cX10_init 196 = .ok (.aload_n 0, 1) := by decide +kernel
theorem dX10_init_197 : decode cX10_init 197 = .ok (.new 104, 3) := by decide +kernel
theorem dX10_init_200 : decode cX10_init 200 = .ok (.dup, 1) := by decide +kernel
theorem dX10_init_201 : decode cX10_init 201 = .ok (.aload 5, 2) := by decide +kernel
theorem dX10_init_203 : decode cX10_init 203 = .ok (.aload 7, 2) := by decide +kernel
theorem dX10_init_205 : decode cX10_init 205 = .ok (.aload 8, 2) := by decide +kernel
theorem dX10_init_207 : decode cX10_init 207 = .ok (.aload 9, 2) := by decide +kernel
theorem dX10_init_209 : decode cX10_init 209 = .ok (.invokespecial 106, 3) := by decide +kernel
theorem dX10_init_212 : decode cX10_init 212 = .ok (.putfield 109, 3) := by decide +kernel
theorem dX10_init_215 : decode cX10_init 215 = .ok (.aload_n 0, 1) := by decide +kernel
theorem dX10_init_216 : decode cX10_init 216 = .ok (.iconst 0, 1) := by decide +kernel
theorem dX10_init_217 : decode cX10_init 217 = .ok (.putfield 113, 3) := by decide +kernel
theorem dX10_init_220 : decode cX10_init 220 = .ok (.return_, 1) := by decide +kernel
theorem dX11_init_0 : decode cX11_init 0 = .ok (.aload_n 0, 1) := by decide +kernel
theorem dX11_init_1 : decode cX11_init 1 = .ok (.invokespecial 1, 3) := by decide +kernel
theorem dX11_init_4 : decode cX11_init 4 = .ok (.aload_n 0, 1) := by decide +kernel
theorem dX11_init_5 : decode cX11_init 5 = .ok (.iconst 1, 1) := by decide +kernel
theorem dX11_init_6 : decode cX11_init 6 = .ok (.putfield 7, 3) := by decide +kernel
theorem dX11_init_9 : decode cX11_init 9 = .ok (.aload_n 0, 1) := by decide +kernel
theorem dX11_init_10 : decode cX11_init 10 = .ok (.iconst (-1), 1) := by decide +kernel
theorem dX11_init_11 : decode cX11_init 11 = .ok (.putfield 13, 3) := by decide +kernel
theorem dX11_init_14 : decode cX11_init 14 = .ok (.aload_n 0, 1) := by decide +kernel
theorem dX11_init_15 : decode cX11_init 15 = .ok (.sipush 2048, 3) := by decide +kernel
theorem dX11_init_18 : decode cX11_init 18 = .ok (.newarray .boolean, 2) := by decide +kernel
theorem dX11_init_20 : decode cX11_init 20 = .ok (.putfield 17, 3) := by decide +kernel
theorem dX11_init_23 : decode cX11_init 23 = .ok (.aload_n 0, 1) := by decide +kernel
theorem dX11_init_24 : decode cX11_init 24 = .ok (.sipush 256, 3) := by decide +kernel
theorem dX11_init_27 : decode cX11_init 27 = .ok (.newarray .boolean, 2) := by decide +kernel
theorem dX11_init_29 : decode cX11_init 29 = .ok (.putfield 21, 3) := by decide +kernel
theorem dX11_init_32 : decode cX11_init 32 = .ok (.aload_n 0, 1) := by decide +kernel
theorem dX11_init_33 : decode cX11_init 33 = .ok (.sipush 256, 3) := by decide +kernel
theorem dX11_init_36 : decode cX11_init 36 = .ok (.newarray .int, 2) := by decide +kernel
theorem dX11_init_38 : decode cX11_init 38 = .ok (.putfield 24, 3) := by decide +kernel
theorem dX11_init_41 : decode cX11_init 41 = .ok (.aload_n 0, 1) := by decide +kernel
theorem dX11_init_42 : decode cX11_init 42 = .ok (.sipush 2048, 3) := by decide +kernel
theorem dX11_init_45 : decode cX11_init 45 = .ok (.newarray .int, 2) := by decide +kernel
theorem dX11_init_47 : decode cX11_init 47 = .ok (.putfield 28, 3) := by decide +kernel
theorem dX11_init_50 : decode cX11_init 50 = .ok (.aload_n 0, 1) := by decide +kernel
theorem dX11_init_51 : decode cX11_init 51 = .ok (.bipush 8, 2) := by decide +kernel
theorem dX11_init_53 : decode cX11_init 53 = .ok (.newarray .int, 2) := by decide +kernel
theorem dX11_init_55 : decode cX11_init 55 = .ok (.putfield 31, 3) := by decide +kernel
theorem dX11_init_58 : decode cX11_init 58 = .ok (.aload_n 0, 1) := by decide +kernel
theorem dX11_init_59 : decode cX11_init 59 = .ok (.iconst (-1), 1) := by decide +kernel
theorem dX11_init_60 : decode cX11_init 60 = .ok (.putfield 34, 3) := by decide +kernel
theorem dX11_init_63 : decode cX11_init 63 = .ok (.aload_n 0, 1) := by decide +kernel
theorem dX11_init_64 : decode cX11_init 64 = .ok (.iconst (-1), 1) := by decide +kernel
theorem dX11_init_65 : decode cX11_init 65 = .ok (.putfield 37, 3) := by decide +kernel
theorem dX11_init_68 : decode cX11_init 68 = .ok (.aload_n 0, 1) := by decide +kernel
theorem dX11_init_69 : decode cX11_init 69 = .ok (.bipush 64, 2) := by decide +kernel
theorem dX11_init_71 : decode cX11_init 71 = .ok (.newarray .int, 2) := by decide +kernel
theorem dX11_init_73 : decode cX11_init 73 = .ok (.putfield 40, 3) := by decide +kernel
theorem dX11_init_76 : decode cX11_init 76 = .ok (.aload_n 0, 1) := by decide +kernel
theorem dX11_init_77 : decode cX11_init 77 = .ok (.bipush 64, 2) := by decide +kernel
theorem dX11_init_79 : decode cX11_init 79 = .ok (.newarray .int, 2) := by decide +kernel
theorem dX11_init_81 : decode cX11_init 81 = .ok (.putfield 43, 3) := by decide +kernel
theorem dX11_init_84 : decode cX11_init 84 = .ok (.aload_n 0, 1) := by decide +kernel
theorem dX11_init_85 : decode cX11_init 85 = .ok (.bipush 64, 2) := by decide +kernel
theorem dX11_init_87 : decode cX11_init 87 = .ok (.newarray .int, 2) := by decide +kernel
theorem dX11_init_89 : decode cX11_init 89 = .ok (.putfield 46, 3) := by decide +kernel
theorem dX11_init_92 : decode cX11_init 92 = .ok (.aload_n 0, 1) := by decide +kernel
theorem dX11_init_93 : decode cX11_init 93 = .ok (.bipush 64, 2) := by decide +kernel
theorem dX11_init_95 : decode cX11_init 95 = .ok (.newarray .int, 2) := by decide +kernel
theorem dX11_init_97 : decode cX11_init 97 = .ok (.putfield 49, 3) := by decide +kernel
theorem dX11_init_100 : decode cX11_init 100 = .ok (.aload_n 0, 1) := by decide +kernel
theorem dX11_init_101 : decode cX11_init 101 = .ok (.ldc 52, 2) := by decide +kernel
theorem dX11_init_103 : decode cX11_init 103 = .ok (.newarray .int, 2) := by decide +kernel
theorem dX11_init_105 : decode cX11_init 105 = .ok (.putfield 53, 3) := by decide +kernel
theorem dX11_init_108 : decode cX11_init 108 = .ok (.aload_n 0, 1) := by decide +kernel
theorem dX11_init_109 : decode cX11_init 109 = .ok (.sipush 2176, 3) := by decide +kernel
theorem dX11_init_112 : decode cX11_init 112 = .ok (.newarray .int, 2) := by decide +kernel
theorem dX11_init_114 : decode cX11_init 114 = .ok (.putfield 56, 3) := by decide +kernel
theorem dX11_init_117 : decode cX11_init 117 = .ok (.aload_n 0, 1) := by decide +kernel
theorem dX11_init_118 : decode cX11_init 118 = .ok (.bipush 64, 2) := by decide +kernel
theorem dX11_init_120 : decode cX11_init 120 = .ok (.newarray .int, 2) := by decide +kernel
theorem dX11_init_122 : decode cX11_init 122 = .ok (.putfield 59, 3) := by decide +kernel
theorem dX11_init_125 : decode cX11_init 125 = .ok (.aload_n 0, 1) := by decide +kernel
theorem dX11_init_126 : decode cX11_init 126 = .ok (.bipush 64, 2) := by decide +kernel
theorem dX11_init_128 : decode cX11_init 128 = .ok (.newarray .int, 2) := by decide +kernel
theorem dX11_init_130 : decode cX11_init 130 = .ok (.putfield 62, 3) := by decide +kernel
theorem dX11_init_133 : decode cX11_init 133 = .ok (.aload_n 0, 1) := by decide +kernel
theorem dX11_init_134 : decode cX11_init 134 = .ok (.sipush 768, 3) := by decide +kernel
theorem dX11_init_137 : decode cX11_init 137 = .ok (.newarray .int, 2) := by decide +kernel
theorem dX11_init_139 : decode cX11_init 139 = .ok (.putfield 65, 3) := by decide +kernel
theorem dX11_init_142 : decode cX11_init 142 = .ok (.aload_n 0, 1) := by decide +kernel
theorem dX11_init_143 : decode cX11_init 143 = .ok (.sipush 3072, 3) := by decide +kernel
theorem dX11_init_146 : decode cX11_init 146 = .ok (.newarray .int, 2) := by decide +kernel
theorem dX11_init_148 : decode cX11_init 148 = .ok (.putfield 68, 3) := by decide +kernel
theorem dX11_init_151 : decode cX11_init 151 = .ok (.aload_n 0, 1) := by decide +kernel
theorem dX11_init_152 : decode cX11_init 152 = .ok (.sipush 3072, 3) := by decide +kernel
theorem dX11_init_155 : decode cX11_init 155 = .ok (.newarray .long, 2) := by decide +kernel
theorem dX11_init_157 : decode cX11_init 157 = .ok (.putfield 71, 3) := by decide +kernel
theorem dX11_init_160 : decode cX11_init 160 = .ok (.aload_n 0, 1) := by decide +kernel
theorem dX11_init_161 : decode cX11_init 161 = .ok (.bipush 64, 2) := by decide +kernel
theorem dX11_init_163 : decode cX11_init 163 = .ok (.newarray .int, 2) := by decide +kernel
theorem dX11_init_165 : decode cX11_init 165 = .ok (.putfield 75, 3) := by decide +kernel
theorem dX11_init_168 : decode cX11_init 168 = .ok (.aload_n 0, 1) := by decide +kernel
theorem dX11_init_169 : decode cX11_init 169 = .ok (.sipush 2560, 3) := by decide +kernel
theorem dX11_init_172 : decode cX11_init 172 = .ok (.newarray .byte, 2) := by decide +kernel
theorem dX11_init_174 : decode cX11_init 174 = .ok (.putfield 78, 3) := by decide +kernel
theorem dX11_init_177 : decode cX11_init 177 = .ok (.aload_n 0, 1) := by decide +kernel
theorem dX11_init_178 : decode cX11_init 178 = .ok (.sipush 2048, 3) := by decide +kernel
theorem dX11_init_181 : decode cX11_init 181 = .ok (.newarray .boolean, 2) := by decide +kernel
theorem dX11_init_183 : decode cX11_init 183 = .ok (.putfield 82, 3) := by decide +kernel
theorem dX11_init_186 : decode cX11_init 186 = .ok (.aload_n 0, 1) := by decide +kernel
theorem dX11_init_187 : decode cX11_init 187 = .ok (.ldc 85, 2) := by decide +kernel
theorem dX11_init_189 : decode cX11_init 189 = .ok (.newarray .byte, 2) := by decide +kernel
theorem dX11_init_191 : decode cX11_init 191 = .ok (.putfield 86, 3) := by decide +kernel
theorem dX11_init_194 : decode cX11_init 194 = .ok (.aload_n 0, 1) := by decide +kernel
theorem dX11_init_195 : decode cX11_init 195 = .ok (.bipush 64, 2) := by decide +kernel
theorem dX11_init_197 : decode cX11_init 197 = .ok (.newarray .int, 2) := by decide +kernel
theorem dX11_init_199 : decode cX11_init 199 = .ok (.putfield 89, 3) := by decide +kernel
theorem dX11_init_202 : decode cX11_init 202 = .ok (.aload_n 0, 1) := by decide +kernel
theorem dX11_init_203 : decode cX11_init 203 = .ok (.bipush 64, 2) := by decide +kernel
theorem dX11_init_205 : decode cX11_init 205 = .ok (.newarray .int, 2) := by decide +kernel
theorem dX11_init_207 : decode cX11_init 207 = .ok (.putfield 92, 3) := by decide +kernel
theorem dX11_init_210 : decode cX11_init 210 = .ok (.aload_n 0, 1) := by decide +kernel
theorem dX11_init_211 : decode cX11_init 211 = .ok (.bipush 64, 2) := by decide +kernel
theorem dX11_init_213 : decode cX11_init 213 = .ok (.newarray .int, 2) := by decide +kernel
theorem dX11_init_215 : decode cX11_init 215 = .ok (.putfield 95, 3) := by decide +kernel
theorem dX11_init_218 : decode cX11_init 218 = .ok (.aload_n 0, 1) := by decide +kernel
theorem dX11_init_219 : decode cX11_init 219 = .ok (.bipush 64, 2) := by decide +kernel
theorem dX11_init_221 : decode cX11_init 221 = .ok (.newarray .int, 2) := by decide +kernel
theorem dX11_init_223 : decode cX11_init 223 = .ok (.putfield 98, 3) := by decide +kernel
theorem dX11_init_226 : decode cX11_init 226 = .ok (.aload_n 0, 1) := by decide +kernel
theorem dX11_init_227 : decode cX11_init 227 = .ok (.ldc 52, 2) := by decide +kernel
theorem dX11_init_229 : decode cX11_init 229 = .ok (.newarray .int, 2) := by decide +kernel
theorem dX11_init_231 : decode cX11_init 231 = .ok (.putfield 101, 3) := by decide +kernel
theorem dX11_init_234 : decode cX11_init 234 = .ok (.aload_n 0, 1) := by decide +kernel
theorem dX11_init_235 : decode cX11_init 235 = .ok (.sipush 2176, 3) := by decide +kernel
theorem dX11_init_238 : decode cX11_init 238 = .ok (.newarray .int, 2) := by decide +kernel
theorem dX11_init_240 : decode cX11_init 240 = .ok (.putfield 104, 3) := by decide +kernel
theorem dX11_init_243 : decode cX11_init 243 = .ok (.aload_n 0, 1) := by decide +kernel
theorem dX11_init_244 : decode cX11_init 244 = .ok (.bipush 64, 2) := by decide +kernel
theorem dX11_init_246 : decode cX11_init 246 = .ok (.newarray .int, 2) := by decide +kernel
theorem dX11_init_248 : decode cX11_init 248 = .ok (.putfield 107, 3) := by decide +kernel
theorem dX11_init_251 : decode cX11_init 251 = .ok (.aload_n 0, 1) := by decide +kernel
theorem dX11_init_252 : decode cX11_init 252 = .ok (.bipush 64, 2) := by decide +kernel
theorem dX11_init_254 : decode cX11_init 254 = .ok (.newarray .int, 2) := by decide +kernel
theorem dX11_init_256 : decode cX11_init 256 = .ok (.putfield 110, 3) := by decide +kernel
theorem dX11_init_259 : decode cX11_init 259 = .ok (.aload_n 0, 1) := by decide +kernel
theorem dX11_init_260 : decode cX11_init 260 = .ok (.sipush 768, 3) := by decide +kernel
theorem dX11_init_263 : decode cX11_init 263 = .ok (.newarray .int, 2) := by decide +kernel
theorem dX11_init_265 : decode cX11_init 265 = .ok (.putfield 113, 3) := by decide +kernel
theorem dX11_init_268 : decode cX11_init 268 = .ok (.aload_n 0, 1) := by decide +kernel
theorem dX11_init_269 : decode cX11_init 269 = .ok (.sipush 3072, 3) := by decide +kernel
theorem dX11_init_272 : decode cX11_init 272 = .ok (.newarray .int, 2) := by decide +kernel
theorem dX11_init_274 : decode cX11_init 274 = .ok (.putfield 116, 3) := by decide +kernel
theorem dX11_init_277 : decode cX11_init 277 = .ok (.aload_n 0, 1) := by decide +kernel
theorem dX11_init_278 : decode cX11_init 278 = .ok (.sipush 3072, 3) := by decide +kernel
theorem dX11_init_281 : decode cX11_init 281 = .ok (.newarray .long, 2) := by decide +kernel
theorem dX11_init_283 : decode cX11_init 283 = .ok (.putfield 119, 3) := by decide +kernel
theorem dX11_init_286 : decode cX11_init 286 = .ok (.aload_n 0, 1) := by decide +kernel
theorem dX11_init_287 : decode cX11_init 287 = .ok (.bipush 64, 2) := by decide +kernel
theorem dX11_init_289 : decode cX11_init 289 = .ok (.newarray .int, 2) := by decide +kernel
theorem dX11_init_291 : decode cX11_init 291 = .ok (.putfield 122, 3) := by decide +kernel
theorem dX11_init_294 : decode cX11_init 294 = .ok (.aload_n 0, 1) := by decide +kernel
theorem dX11_init_295 : decode cX11_init 295 = .ok (.sipush 2560, 3) := by decide +kernel
theorem dX11_init_298 : decode cX11_init 298 = .ok (.newarray .byte, 2) := by decide +kernel
theorem dX11_init_300 : decode cX11_init 300 = .ok (.putfield 125, 3) := by decide +kernel
theorem dX11_init_303 : decode cX11_init 303 = .ok (.aload_n 0, 1) := by decide +kernel
theorem dX11_init_304 : decode cX11_init 304 = .ok (.sipush 2048, 3) := by decide +kernel
theorem dX11_init_307 : decode cX11_init 307 = .ok (.newarray .boolean, 2) := by decide +kernel
theorem dX11_init_309 : decode cX11_init 309 = .ok (.putfield 128, 3) := by decide +kernel
theorem dX11_init_312 : decode cX11_init 312 = .ok (.aload_n 0, 1) := by decide +kernel
theorem dX11_init_313 : decode cX11_init 313 = .ok (.ldc 85, 2) := by decide +kernel
theorem dX11_init_315 : decode cX11_init 315 = .ok (.newarray .byte, 2) := by decide +kernel
theorem dX11_init_317 : decode cX11_init 317 = .ok (.putfield 131, 3) := by decide +kernel
theorem dX11_init_320 : decode cX11_init 320 = .ok (.aload_n 0, 1) := by decide +kernel
theorem dX11_init_321 : decode cX11_init 321 = .ok (.sipush 2048, 3) := by decide +kernel
theorem dX11_init_324 : decode cX11_init 324 = .ok (.newarray .boolean, 2) := by decide +kernel
theorem dX11_init_326 : decode cX11_init 326 = .ok (.putfield 134, 3) := by decide +kernel
theorem dX11_init_329 : decode cX11_init 329 = .ok (.aload_n 0, 1) := by decide +kernel
theorem dX11_init_330 : decode cX11_init 330 = .ok (.sipush 2048, 3) := by decide +kernel
theorem dX11_init_333 : decode cX11_init 333 = .ok (.newarray .boolean, 2) := by decide +kernel
theorem dX11_init_335 : decode cX11_init 335 = .ok (.putfield 137, 3) := by decide +kernel
theorem dX11_init_338 : decode cX11_init 338 = .ok (.aload_n 0, 1) := by decide +kernel
theorem dX11_init_339 : decode cX11_init 339 = .ok (.sipush 1280, 3) := by decide +kernel
theorem dX11_init_342 : decode cX11_init 342 = .ok (.newarray .byte, 2) := by decide +kernel
theorem dX11_init_344 : decode cX11_init 344 = .ok (.putfield 140, 3) := by decide +kernel
theorem dX11_init_347 : decode cX11_init 347 = .ok (.aload_n 0, 1) := by decide +kernel
theorem dX11_init_348 : decode cX11_init 348 = .ok (.bipush 10, 2) := by decide +kernel
theorem dX11_init_350 : decode cX11_init 350 = .ok (.newarray .int, 2) := by decide +kernel
theorem dX11_init_352 : decode cX11_init 352 = .ok (.putfield 143, 3) := by decide +kernel
theorem dX11_init_355 : decode cX11_init 355 = .ok (.aload_n 0, 1) := by decide +kernel
theorem dX11_init_356 : decode cX11_init 356 = .ok (.bipush 10, 2) := by decide +kernel
theorem dX11_init_358 : decode cX11_init 358 = .ok (.newarray .int, 2) := by decide +kernel
theorem dX11_init_360 : decode cX11_init 360 = .ok (.putfield 146, 3) := by decide +kernel
theorem dX11_init_363 : decode cX11_init 363 = .ok (.aload_n 0, 1) := by decide +kernel
theorem dX11_init_364 : decode cX11_init 364 = .ok (.iload_n 1, 1) := by decide +kernel
theorem dX11_init_365 : decode cX11_init 365 = .ok (.iconst 4, 1) := by decide +kernel
theorem dX11_init_366 : decode cX11_init 366 = .ok (.bipush 8, 2) := by decide +kernel
theorem dX11_init_368 : decode cX11_init 368 = .ok (.invokestatic 149, 3) := by decide +kernel
theorem dX11_init_371 : decode cX11_init 371 = .ok (.putfield 153, 3) := by decide +kernel
theorem dX11_init_374 : decode cX11_init 374 = .ok (.aload_n 0, 1) := by decide +kernel
theorem dX11_init_375 : decode cX11_init 375 = .ok (.iload_n 2, 1) := by decide +kernel
theorem dX11_init_376 : decode cX11_init 376 = .ok (.bipush 8, 2) := by decide +kernel
theorem dX11_init_378 : decode cX11_init 378 = .ok (.bipush 32, 2) := by decide +kernel
theorem dX11_init_380 : decode cX11_init 380 = .ok (.invokestatic 149, 3) := by decide +kernel
theorem dX11_init_383 : decode cX11_init 383 = .ok (.putfield 156, 3) := by decide +kernel
theorem dX11_init_386 : decode cX11_init 386 = .ok (.aload_n 0, 1) := by decide +kernel
theorem dX11_init_387 : decode cX11_init 387 = .ok (.iload_n 3, 1) := by decide +kernel
theorem dX11_init_388 : decode cX11_init 388 = .ok (.iconst 1, 1) := by decide +kernel
theorem dX11_init_389 : decode cX11_init 389 = .ok (.iconst 4, 1) := by decide +kernel
theorem dX11_init_390 : decode cX11_init 390 = .ok (.invokestatic 149, 3) := by decide +kernel
theorem dX11_init_393 : decode cX11_init 393 = .ok (.putfield 159, 3) := by decide +kernel
theorem dX11_init_396 : decode cX11_init 396 = .ok (.aload_n 0, 1) := by decide +kernel
theorem dX11_init_397 : decode cX11_init 397 = .ok (.iload 4, 2) := by decide +kernel
theorem dX11_init_399 : decode cX11_init 399 = .ok (.bipush 64, 2) := by decide +kernel
theorem dX11_init_401 : decode cX11_init 401 = .ok (.sipush 256, 3) := by decide +kernel
theorem dX11_init_404 : decode cX11_init 404 = .ok (.invokestatic 149, 3) := by decide +kernel
theorem dX11_init_407 : decode cX11_init 407 = .ok (.putfield 162, 3) := by decide +kernel
theorem dX11_init_410 : decode cX11_init 410 = .ok (.aload_n 0, 1) := by decide +kernel
theorem dX11_init_411 : decode cX11_init 411 = .ok (.bipush 8, 2) := by decide +kernel
theorem dX11_init_413 : decode cX11_init 413 = .ok (.aload_n 0, 1) := by decide +kernel
theorem dX11_init_414 : decode cX11_init 414 = .ok (.getfield 156, 3) := by decide +kernel
theorem dX11_init_417 : decode cX11_init 417 = .ok (.imul, 1) := by decide +kernel
theorem dX11_init_418 : decode cX11_init 418 = .ok (.putfield 165, 3) := by decide +kernel
theorem dX11_init_421 : decode cX11_init 421 = .ok (.aload_n 0, 1) := by decide +kernel
theorem dX11_init_422 : decode cX11_init 422 = .ok (.aload_n 0, 1) := by decide +kernel
theorem dX11_init_423 : decode cX11_init 423 = .ok (.getfield 165, 3) := by decide +kernel
theorem dX11_init_426 : decode cX11_init 426 = .ok (.aload_n 0, 1) := by decide +kernel
theorem dX11_init_427 : decode cX11_init 427 = .ok (.getfield 153, 3) := by decide +kernel
theorem dX11_init_430 : decode cX11_init 430 = .ok (.imul, 1) := by decide +kernel
theorem dX11_init_431 : decode cX11_init 431 = .ok (.putfield 168, 3) := by decide +kernel
theorem dX11_init_434 : decode cX11_init 434 = .ok (.aload_n 0, 1) := by decide +kernel
theorem dX11_init_435 : decode cX11_init 435 = .ok (.bipush 80, 2) := by decide +kernel
theorem dX11_init_437 : decode cX11_init 437 = .ok (.putfield 171, 3) := by decide +kernel
theorem dX11_init_440 : decode cX11_init 440 = .ok (.aload_n 0, 1) := by decide +kernel
theorem dX11_init_441 : decode cX11_init 441 = .ok (.bipush 80, 2) := by decide +kernel
theorem dX11_init_443 : decode cX11_init 443 = .ok (.aload_n 0, 1) := by decide +kernel
theorem dX11_init_444 : decode cX11_init 444 = .ok (.getfield 168, 3) := by decide +kernel
theorem dX11_init_447 : decode cX11_init 447 = .ok (.sipush 511, 3) := by decide +kernel
theorem dX11_init_450 : decode cX11_init 450 = .ok (.iadd, 1) := by decide +kernel
theorem dX11_init_451 : decode cX11_init 451 = .ok (.sipush 512, 3) := by decide +kernel
theorem dX11_init_454 : decode cX11_init 454 = .ok (.idiv, 1) := by decide +kernel
theorem dX11_init_455 : decode cX11_init 455 = .ok (.iadd, 1) := by decide +kernel
theorem dX11_init_456 : decode cX11_init 456 = .ok (.putfield 174, 3) := by decide +kernel
theorem dX11_init_459 : decode cX11_init 459 = .ok (.aload_n 0, 1) := by decide +kernel
theorem dX11_init_460 : decode cX11_init 460 = .ok (.aload_n 0, 1) := by decide +kernel
theorem dX11_init_461 : decode cX11_init 461 = .ok (.getfield 174, 3) := by decide +kernel
theorem dX11_init_464 : decode cX11_init 464 = .ok (.bipush 64, 2) := by decide +kernel
theorem dX11_init_466 : decode cX11_init 466 = .ok (.iadd, 1) := by decide +kernel
theorem dX11_init_467 : decode cX11_init 467 = .ok (.putfield 177, 3) := by decide +kernel
theorem dX11_init_470 : decode cX11_init 470 = .ok (.iconst 0, 1) := by decide +kernel
theorem dX11_init_471 : decode cX11_init 471 = .ok (.istore 5, 2) := by decide +kernel
theorem dX11_init_473 : decode cX11_init 473 = .ok (.iload 5, 2) := by decide +kernel
theorem dX11_init_475 : decode cX11_init 475 = .ok (.sipush 2048, 3) := by decide +kernel
theorem dX11_init_478 : decode cX11_init 478 = .ok (.if_icmp .ge 17, 3) := by decide +kernel
theorem dX11_init_481 : decode cX11_init 481 = .ok (.aload_n 0, 1) := by decide +kernel
theorem dX11_init_482 : decode cX11_init 482 = .ok (.getfield 28, 3) := by decide +kernel
theorem dX11_init_485 : decode cX11_init 485 = .ok (.iload 5, 2) := by decide +kernel
theorem dX11_init_487 : decode cX11_init 487 = .ok (.iconst (-1), 1) := by decide +kernel
theorem dX11_init_488 : decode cX11_init 488 = .ok (.iastore, 1) := by decide +kernel
theorem dX11_init_489 : decode cX11_init 489 = .ok (.iinc 5 1, 3) := by decide +kernel
theorem dX11_init_492 : decode cX11_init 492 = .ok (.goto (-19), 3) := by decide +kernel
theorem dX11_init_495 : decode cX11_init 495 = .ok (.iconst 0, 1) := by decide +kernel
theorem dX11_init_496 : decode cX11_init 496 = .ok (.istore 5, 2) := by decide +kernel
theorem dX11_init_498 : decode cX11_init 498 = .ok (.iload 5, 2) := by decide +kernel
theorem dX11_init_500 : decode cX11_init 500 = .ok (.aload_n 0, 1) := by decide +kernel
theorem dX11_init_501 : decode cX11_init 501 = .ok (.getfield 177, 3) := by decide +kernel
theorem dX11_init_504 : decode cX11_init 504 = .ok (.if_icmp .ge 25, 3) := by decide +kernel
theorem dX11_init_507 : decode cX11_init 507 = .ok (.aload_n 0, 1) := by decide +kernel
theorem dX11_init_508 : decode cX11_init 508 = .ok (.getfield 82, 3) := by decide +kernel
theorem dX11_init_511 : decode cX11_init 511 = .ok (.iload 5, 2) := by decide +kernel
theorem dX11_init_513 : decode cX11_init 513 = .ok (.iconst 1, 1) := by decide +kernel
theorem dX11_init_514 : decode cX11_init 514 = .ok (.bastore, 1) := by decide +kernel
theorem dX11_init_515 : decode cX11_init 515 = .ok (.aload_n 0, 1) := by decide +kernel
theorem dX11_init_516 : decode cX11_init 516 = .ok (.getfield 128, 3) := by decide +kernel
theorem dX11_init_519 : decode cX11_init 519 = .ok (.iload 5, 2) := by decide +kernel
theorem dX11_init_521 : decode cX11_init 521 = .ok (.iconst 1, 1) := by decide +kernel
theorem dX11_init_522 : decode cX11_init 522 = .ok (.bastore, 1) := by decide +kernel
theorem dX11_init_523 : decode cX11_init 523 = .ok (.iinc 5 1, 3) := by decide +kernel
theorem dX11_init_526 : decode cX11_init 526 = .ok (.goto (-28), 3) := by decide +kernel
theorem dX11_init_529 : decode cX11_init 529 = .ok (.aload_n 0, 1) := by decide +kernel
theorem dX11_init_530 : decode cX11_init 530 = .ok (.getfield 40, 3) := by decide +kernel
theorem dX11_init_533 : decode cX11_init 533 = .ok (.iconst 0, 1) := by decide +kernel
theorem dX11_init_534 : decode cX11_init 534 = .ok (.iconst 2, 1) := by decide +kernel
theorem dX11_init_535 : decode cX11_init 535 = .ok (.iastore, 1) := by decide +kernel
theorem dX11_init_536 : decode cX11_init 536 = .ok (.aload_n 0, 1) := by decide +kernel
theorem dX11_init_537 : decode cX11_init 537 = .ok (.getfield 89, 3) := by decide +kernel
theorem dX11_init_540 : decode cX11_init 540 = .ok (.iconst 0, 1) := by decide +kernel
theorem dX11_init_541 : decode cX11_init 541 = .ok (.iconst 2, 1) := by decide +kernel
theorem dX11_init_542 : decode cX11_init 542 = .ok (.iastore, 1) := by decide +kernel
theorem dX11_init_543 : decode cX11_init 543 = .ok (.aload_n 0, 1) := by decide +kernel
theorem dX11_init_544 : decode cX11_init 544 = .ok (.getfield 62, 3) := by decide +kernel
theorem dX11_init_547 : decode cX11_init 547 = .ok (.iconst 0, 1) := by decide +kernel
theorem dX11_init_548 : decode cX11_init 548 = .ok (.bipush 63, 2) := by decide +kernel
theorem dX11_init_550 : decode cX11_init 550 = .ok (.iastore, 1) := by decide +kernel
theorem dX11_init_551 : decode cX11_init 551 = .ok (.aload_n 0, 1) := by decide +kernel
theorem dX11_init_552 : decode cX11_init 552 = .ok (.getfield 110, 3) := by decide +kernel
theorem dX11_init_555 : decode cX11_init 555 = .ok (.iconst 0, 1) := by decide +kernel
theorem dX11_init_556 : decode cX11_init 556 = .ok (.bipush 63, 2) := by decide +kernel
theorem dX11_init_558 : decode cX11_init 558 = .ok (.iastore, 1) := by decide +kernel
theorem dX11_init_559 : decode cX11_init 559 = .ok (.iconst 0, 1) := by decide +kernel
theorem dX11_init_560 : decode cX11_init 560 = .ok (.istore 5, 2) := by decide +kernel
theorem dX11_init_562 : decode cX11_init 562 = .ok (.iload 5, 2) := by decide +kernel
theorem dX11_init_564 : decode cX11_init 564 = .ok (.sipush 2176, 3) := by decide +kernel
theorem dX11_init_567 : decode cX11_init 567 = .ok (.if_icmp .ge 25, 3) := by decide +kernel
theorem dX11_init_570 : decode cX11_init 570 = .ok (.aload_n 0, 1) := by decide +kernel
theorem dX11_init_571 : decode cX11_init 571 = .ok (.getfield 56, 3) := by decide +kernel
theorem dX11_init_574 : decode cX11_init 574 = .ok (.iload 5, 2) := by decide +kernel
theorem dX11_init_576 : decode cX11_init 576 = .ok (.iconst (-1), 1) := by decide +kernel
theorem dX11_init_577 : decode cX11_init 577 = .ok (.iastore, 1) := by decide +kernel
theorem dX11_init_578 : decode cX11_init 578 = .ok (.aload_n 0, 1) := by decide +kernel
theorem dX11_init_579 : decode cX11_init 579 = .ok (.getfield 104, 3) := by decide +kernel
theorem dX11_init_582 : decode cX11_init 582 = .ok (.iload 5, 2) := by decide +kernel
theorem dX11_init_584 : decode cX11_init 584 = .ok (.iconst (-1), 1) := by decide +kernel
theorem dX11_init_585 : decode cX11_init 585 = .ok (.iastore, 1) := by decide +kernel
theorem dX11_init_586 : decode cX11_init 586 = .ok (.iinc 5 1, 3) := by decide +kernel
theorem dX11_init_589 : decode cX11_init 589 = .ok (.goto (-27), 3) := by decide +kernel
theorem dX11_init_592 : decode cX11_init 592 = .ok (.iconst 0, 1) := by decide +kernel
theorem dX11_init_593 : decode cX11_init 593 = .ok (.istore 5, 2) := by decide +kernel
theorem dX11_init_595 : decode cX11_init 595 = .ok (.iload 5, 2) := by decide +kernel
theorem dX11_init_597 : decode cX11_init 597 = .ok (.ldc 52, 2) := by decide +kernel
theorem dX11_init_599 : decode cX11_init 599 = .ok (.if_icmp .ge 25, 3) := by decide +kernel
theorem dX11_init_602 : decode cX11_init 602 = .ok (.aload_n 0, 1) := by decide +kernel
theorem dX11_init_603 : decode cX11_init 603 = .ok (.getfield 53, 3) := by decide +kernel
theorem dX11_init_606 : decode cX11_init 606 = .ok (.iload 5, 2) := by decide +kernel
theorem dX11_init_608 : decode cX11_init 608 = .ok (.iconst (-1), 1) := by decide +kernel
theorem dX11_init_609 : decode cX11_init 609 = .ok (.iastore, 1) := by decide +kernel
theorem dX11_init_610 : decode cX11_init 610 = .ok (.aload_n 0, 1) := by decide +kernel
theorem dX11_init_611 : decode cX11_init 611 = .ok (.getfield 101, 3) := by decide +kernel
theorem dX11_init_614 : decode cX11_init 614 = .ok (.iload 5, 2) := by decide +kernel
theorem dX11_init_616 : decode cX11_init 616 = .ok (.iconst (-1), 1) := by decide +kernel
theorem dX11_init_617 : decode cX11_init 617 = .ok (.iastore, 1) := by decide +kernel
theorem dX11_init_618 : decode cX11_init 618 = .ok (.iinc 5 1, 3) := by decide +kernel
theorem dX11_init_621 : decode cX11_init 621 = .ok (.goto (-26), 3) := by decide +kernel
theorem dX11_init_624 : decode cX11_init 624 = .ok (.iconst 0, 1) := by decide +kernel
theorem dX11_init_625 : decode cX11_init 625 = .ok (.istore 5, 2) := by decide +kernel
theorem dX11_init_627 : decode cX11_init 627 = .ok (.iload 5, 2) := by decide +kernel
theorem dX11_init_629 : decode cX11_init 629 = .ok (.sipush 3072, 3) := by decide +kernel
theorem dX11_init_632 : decode cX11_init 632 = .ok (.if_icmp .ge 25, 3) := by decide +kernel
theorem dX11_init_635 : decode cX11_init 635 = .ok (.aload_n 0, 1) := by decide +kernel
theorem dX11_init_636 : decode cX11_init 636 = .ok (.getfield 68, 3) := by decide +kernel
theorem dX11_init_639 : decode cX11_init 639 = .ok (.iload 5, 2) := by decide +kernel
theorem dX11_init_641 : decode cX11_init 641 = .ok (.iconst (-1), 1) := by decide +kernel
theorem dX11_init_642 : decode cX11_init 642 = .ok (.iastore, 1) := by decide +kernel
theorem dX11_init_643 : decode cX11_init 643 = .ok (.aload_n 0, 1) := by decide +kernel
theorem dX11_init_644 : decode cX11_init 644 = .ok (.getfield 116, 3) := by decide +kernel
theorem dX11_init_647 : decode cX11_init 647 = .ok (.iload 5, 2) := by decide +kernel
theorem dX11_init_649 : decode cX11_init 649 = .ok (.iconst (-1), 1) := by decide +kernel
theorem dX11_init_650 : decode cX11_init 650 = .ok (.iastore, 1) := by decide +kernel
theorem dX11_init_651 : decode cX11_init 651 = .ok (.iinc 5 1, 3) := by decide +kernel
theorem dX11_init_654 : decode cX11_init 654 = .ok (.goto (-27), 3) := by decide +kernel
theorem dX11_init_657 : decode cX11_init 657 = .ok (.return_, 1) := by decide +kernel
theorem kc_X2_54 : Cond.constantLong RX2 54 (4128770) ∈ q_T := q_mt 290 (by decide +kernel) rfl
/-- the cells of the reference -/
def af_W (a : Nat → Nat) (cI : Nat → ClassId) (L : Nat → Nat) (σ : q_St) : va_W := [
  (a 0, .inr (2, [.int (q_i σ 0), .int (q_i σ 1), .int (q_i σ 2), .int (q_i σ 3), .int (q_i σ 4), .int (q_i σ 5), .ref (a 1), .ref (a 2), .int (q_i σ 6), .int (q_i σ 7), .int (q_i σ 8), .int (q_i σ 9), .int (q_i σ 10), .int (q_i σ 11), .int (q_i σ 12)])),
  (a 1, .inl (cI 0, (L 0), .inr (.inl (q_j σ 0)))),
  (a 2, .inl (cI 1, (L 1), .inl (q_a σ 0)))]
def af_T (cI : Nat → ClassId) : List (ClassId × FieldType) := [(cI 0, .long), (cI 1, .boolean)]
def af_A (a : Nat → Nat) : Nat → Prop := fun q => ∃ k : Nat, k < 3 ∧ q = a k

/-- the cells of the reference -/
def ag_W (a : Nat → Nat) (cI : Nat → ClassId) (L : Nat → Nat) (σ : q_St) : va_W := [
  (a 0, .inl (cI 0, (L 0), .inl (q_a σ 0)))]
def ag_T (cI : Nat → ClassId) : List (ClassId × FieldType) := [(cI 0, .int)]
def ag_A (a : Nat → Nat) : Nat → Prop := fun q => ∃ k : Nat, k < 1 ∧ q = a k

section QWf
variable {p : Program} {l : Launch} {e : Env} {R : Room} {s : State} {m : MethodId} {args : Array Value} {below : List Frame} {meth : Method} {c : Code} {H : Heap} {locs : List Loc} {cells slots : Nat} {Q : State → Prop}
variable {cc : ByteArray} {pc : Nat} {ls : Array Slot} {rest : List Value} {D : va_G} {A : Nat → Prop} {H0 : Heap} {σ σ0 σ1 : q_St} {β : Type} {z : β} {own : String} {index : Nat} {a : Nat → Nat} {cI : Nat → ClassId} {L : Nat → Nat}
theorem gf_disk_bands (hx : p.tables.exec = Jvm.exec) (hb : c.code = cc) (hts : ∀ w ∈ q_T, w.before args s = true) (hown : s.vm.findClass own = some m.cls) (hK : va_K D vwCl (af_T cI) s) (hP : va_P D vwCl (af_W a cI L σ) H) (hlink : Cond.fieldLink own index "ShingleHouse$Disk" "bands" "I" ∈ q_T) (hdg : decode cc pc = .ok (.getfield index, 3)) (kk : W p l e R s m args below meth c H locs cells slots Q (F0 m (pc + 3) ls (.int (q_i σ 0) :: rest))) : W p l e R s m args below meth c H locs cells slots Q (F0 m pc ls (.ref (a 0) :: rest)) :=
  va_get (D := D) (ci := 2) (v := .int (q_i σ 0)) (C := RX2) (T := TX2) (N := 15) hx hb hts inT_X2 hown hK hP 0 rfl rfl 0 (by decide) (hts _ hlink) (fun _ h9 => h9) rfl hdg kk
theorem gf_disk_tracks (hx : p.tables.exec = Jvm.exec) (hb : c.code = cc) (hts : ∀ w ∈ q_T, w.before args s = true) (hown : s.vm.findClass own = some m.cls) (hK : va_K D vwCl (af_T cI) s) (hP : va_P D vwCl (af_W a cI L σ) H) (hlink : Cond.fieldLink own index "ShingleHouse$Disk" "tracks" "I" ∈ q_T) (hdg : decode cc pc = .ok (.getfield index, 3)) (kk : W p l e R s m args below meth c H locs cells slots Q (F0 m (pc + 3) ls (.int (q_i σ 1) :: rest))) : W p l e R s m args below meth c H locs cells slots Q (F0 m pc ls (.ref (a 0) :: rest)) :=
  va_get (D := D) (ci := 2) (v := .int (q_i σ 1)) (C := RX2) (T := TX2) (N := 15) hx hb hts inT_X2 hown hK hP 0 rfl rfl 1 (by decide) (hts _ hlink) (fun _ h9 => h9) rfl hdg kk
theorem gf_disk_shingles (hx : p.tables.exec = Jvm.exec) (hb : c.code = cc) (hts : ∀ w ∈ q_T, w.before args s = true) (hown : s.vm.findClass own = some m.cls) (hK : va_K D vwCl (af_T cI) s) (hP : va_P D vwCl (af_W a cI L σ) H) (hlink : Cond.fieldLink own index "ShingleHouse$Disk" "shingles" "I" ∈ q_T) (hdg : decode cc pc = .ok (.getfield index, 3)) (kk : W p l e R s m args below meth c H locs cells slots Q (F0 m (pc + 3) ls (.int (q_i σ 2) :: rest))) : W p l e R s m args below meth c H locs cells slots Q (F0 m pc ls (.ref (a 0) :: rest)) :=
  va_get (D := D) (ci := 2) (v := .int (q_i σ 2)) (C := RX2) (T := TX2) (N := 15) hx hb hts inT_X2 hown hK hP 0 rfl rfl 2 (by decide) (hts _ hlink) (fun _ h9 => h9) rfl hdg kk
theorem gf_disk_bandSize (hx : p.tables.exec = Jvm.exec) (hb : c.code = cc) (hts : ∀ w ∈ q_T, w.before args s = true) (hown : s.vm.findClass own = some m.cls) (hK : va_K D vwCl (af_T cI) s) (hP : va_P D vwCl (af_W a cI L σ) H) (hlink : Cond.fieldLink own index "ShingleHouse$Disk" "bandSize" "I" ∈ q_T) (hdg : decode cc pc = .ok (.getfield index, 3)) (kk : W p l e R s m args below meth c H locs cells slots Q (F0 m (pc + 3) ls (.int (q_i σ 3) :: rest))) : W p l e R s m args below meth c H locs cells slots Q (F0 m pc ls (.ref (a 0) :: rest)) :=
  va_get (D := D) (ci := 2) (v := .int (q_i σ 3)) (C := RX2) (T := TX2) (N := 15) hx hb hts inT_X2 hown hK hP 0 rfl rfl 3 (by decide) (hts _ hlink) (fun _ h9 => h9) rfl hdg kk
theorem gf_disk_sectors (hx : p.tables.exec = Jvm.exec) (hb : c.code = cc) (hts : ∀ w ∈ q_T, w.before args s = true) (hown : s.vm.findClass own = some m.cls) (hK : va_K D vwCl (af_T cI) s) (hP : va_P D vwCl (af_W a cI L σ) H) (hlink : Cond.fieldLink own index "ShingleHouse$Disk" "sectors" "I" ∈ q_T) (hdg : decode cc pc = .ok (.getfield index, 3)) (kk : W p l e R s m args below meth c H locs cells slots Q (F0 m (pc + 3) ls (.int (q_i σ 4) :: rest))) : W p l e R s m args below meth c H locs cells slots Q (F0 m pc ls (.ref (a 0) :: rest)) :=
  va_get (D := D) (ci := 2) (v := .int (q_i σ 4)) (C := RX2) (T := TX2) (N := 15) hx hb hts inT_X2 hown hK hP 0 rfl rfl 4 (by decide) (hts _ hlink) (fun _ h9 => h9) rfl hdg kk
theorem gf_disk_places (hx : p.tables.exec = Jvm.exec) (hb : c.code = cc) (hts : ∀ w ∈ q_T, w.before args s = true) (hown : s.vm.findClass own = some m.cls) (hK : va_K D vwCl (af_T cI) s) (hP : va_P D vwCl (af_W a cI L σ) H) (hlink : Cond.fieldLink own index "ShingleHouse$Disk" "places" "I" ∈ q_T) (hdg : decode cc pc = .ok (.getfield index, 3)) (kk : W p l e R s m args below meth c H locs cells slots Q (F0 m (pc + 3) ls (.int (q_i σ 5) :: rest))) : W p l e R s m args below meth c H locs cells slots Q (F0 m pc ls (.ref (a 0) :: rest)) :=
  va_get (D := D) (ci := 2) (v := .int (q_i σ 5)) (C := RX2) (T := TX2) (N := 15) hx hb hts inT_X2 hown hK hP 0 rfl rfl 5 (by decide) (hts _ hlink) (fun _ h9 => h9) rfl hdg kk
theorem gf_disk_cells (hx : p.tables.exec = Jvm.exec) (hb : c.code = cc) (hts : ∀ w ∈ q_T, w.before args s = true) (hown : s.vm.findClass own = some m.cls) (hK : va_K D vwCl (af_T cI) s) (hP : va_P D vwCl (af_W a cI L σ) H) (hlink : Cond.fieldLink own index "ShingleHouse$Disk" "cells" "[J" ∈ q_T) (hdg : decode cc pc = .ok (.getfield index, 3)) (kk : W p l e R s m args below meth c H locs cells slots Q (F0 m (pc + 3) ls (.ref (a 1) :: rest))) : W p l e R s m args below meth c H locs cells slots Q (F0 m pc ls (.ref (a 0) :: rest)) :=
  va_get (D := D) (ci := 2) (v := .ref (a 1)) (C := RX2) (T := TX2) (N := 15) hx hb hts inT_X2 hown hK hP 0 rfl rfl 6 (by decide) (hts _ hlink) (fun _ h9 => h9) rfl hdg kk
theorem gf_disk_lost (hx : p.tables.exec = Jvm.exec) (hb : c.code = cc) (hts : ∀ w ∈ q_T, w.before args s = true) (hown : s.vm.findClass own = some m.cls) (hK : va_K D vwCl (af_T cI) s) (hP : va_P D vwCl (af_W a cI L σ) H) (hlink : Cond.fieldLink own index "ShingleHouse$Disk" "lost" "[Z" ∈ q_T) (hdg : decode cc pc = .ok (.getfield index, 3)) (kk : W p l e R s m args below meth c H locs cells slots Q (F0 m (pc + 3) ls (.ref (a 2) :: rest))) : W p l e R s m args below meth c H locs cells slots Q (F0 m pc ls (.ref (a 0) :: rest)) :=
  va_get (D := D) (ci := 2) (v := .ref (a 2)) (C := RX2) (T := TX2) (N := 15) hx hb hts inT_X2 hown hK hP 0 rfl rfl 7 (by decide) (hts _ hlink) (fun _ h9 => h9) rfl hdg kk
theorem gf_disk_on (hx : p.tables.exec = Jvm.exec) (hb : c.code = cc) (hts : ∀ w ∈ q_T, w.before args s = true) (hown : s.vm.findClass own = some m.cls) (hK : va_K D vwCl (af_T cI) s) (hP : va_P D vwCl (af_W a cI L σ) H) (hlink : Cond.fieldLink own index "ShingleHouse$Disk" "on" "Z" ∈ q_T) (hdg : decode cc pc = .ok (.getfield index, 3)) (kk : W p l e R s m args below meth c H locs cells slots Q (F0 m (pc + 3) ls (.int (q_i σ 6) :: rest))) : W p l e R s m args below meth c H locs cells slots Q (F0 m pc ls (.ref (a 0) :: rest)) :=
  va_get (D := D) (ci := 2) (v := .int (q_i σ 6)) (C := RX2) (T := TX2) (N := 15) hx hb hts inT_X2 hown hK hP 0 rfl rfl 8 (by decide) (hts _ hlink) (fun _ h9 => h9) rfl hdg kk
theorem pf_disk_on_0 (hx : p.tables.exec = Jvm.exec) (hb : c.code = cc) (hts : ∀ w ∈ q_T, w.before args s = true) (hown : s.vm.findClass own = some m.cls) (hK : va_K D vwCl (af_T cI) s) (hP : va_P D vwCl (af_W a cI L σ) H) (hlink : Cond.fieldLink own index "ShingleHouse$Disk" "on" "Z" ∈ q_T) (hD : ∀ σ, va_D A (af_W a cI L σ)) (hS : va_S A s.heap H locs) {K : q_St → Option β} (hF : q_nm (q_si σ 6 0) K = some z) (hdg : decode cc pc = .ok (.putfield index, 3)) (kk : ∀ (σ1 : q_St) (H : Heap) (locs : List Loc), K σ1 = some z → va_P D vwCl (af_W a cI L σ1) H → va_S A s.heap H locs → W p l e R s m args below meth c H locs cells slots Q (F0 m (pc + 3) ls rest)) : W p l e R s m args below meth c H locs cells slots Q (F0 m pc ls (.int 0 :: .ref (a 0) :: rest)) :=
  va_put (D := D) (ci := 2) (v := .int 0) (ty := .boolean) (C := RX2) (T := TX2) (N := 15) hx hb hts inT_X2 tyX2 tyX2_ok nmX2 hown hK hP (hD σ) hS 0 rfl rfl 8 (by decide) (hts _ hlink) (fun _ h9 => h9) rfl (by decide +kernel) rfl rfl (Nat.le_of_ble_eq_true rfl) hdg (fun H1 locs1 hP1 _ hS1 => kk (q_si σ 6 0) H1 locs1 hF hP1 hS1)
theorem pf_disk_on_1 (hx : p.tables.exec = Jvm.exec) (hb : c.code = cc) (hts : ∀ w ∈ q_T, w.before args s = true) (hown : s.vm.findClass own = some m.cls) (hK : va_K D vwCl (af_T cI) s) (hP : va_P D vwCl (af_W a cI L σ) H) (hlink : Cond.fieldLink own index "ShingleHouse$Disk" "on" "Z" ∈ q_T) (hD : ∀ σ, va_D A (af_W a cI L σ)) (hS : va_S A s.heap H locs) {K : q_St → Option β} (hF : q_nm (q_si σ 6 1) K = some z) (hdg : decode cc pc = .ok (.putfield index, 3)) (kk : ∀ (σ1 : q_St) (H : Heap) (locs : List Loc), K σ1 = some z → va_P D vwCl (af_W a cI L σ1) H → va_S A s.heap H locs → W p l e R s m args below meth c H locs cells slots Q (F0 m (pc + 3) ls rest)) : W p l e R s m args below meth c H locs cells slots Q (F0 m pc ls (.int 1 :: .ref (a 0) :: rest)) :=
  va_put (D := D) (ci := 2) (v := .int 1) (ty := .boolean) (C := RX2) (T := TX2) (N := 15) hx hb hts inT_X2 tyX2 tyX2_ok nmX2 hown hK hP (hD σ) hS 0 rfl rfl 8 (by decide) (hts _ hlink) (fun _ h9 => h9) rfl (by decide +kernel) rfl rfl (Nat.le_of_ble_eq_true rfl) hdg (fun H1 locs1 hP1 _ hS1 => kk (q_si σ 6 1) H1 locs1 hF hP1 hS1)
theorem gf_disk_cut (hx : p.tables.exec = Jvm.exec) (hb : c.code = cc) (hts : ∀ w ∈ q_T, w.before args s = true) (hown : s.vm.findClass own = some m.cls) (hK : va_K D vwCl (af_T cI) s) (hP : va_P D vwCl (af_W a cI L σ) H) (hlink : Cond.fieldLink own index "ShingleHouse$Disk" "cut" "I" ∈ q_T) (hdg : decode cc pc = .ok (.getfield index, 3)) (kk : W p l e R s m args below meth c H locs cells slots Q (F0 m (pc + 3) ls (.int (q_i σ 7) :: rest))) : W p l e R s m args below meth c H locs cells slots Q (F0 m pc ls (.ref (a 0) :: rest)) :=
  va_get (D := D) (ci := 2) (v := .int (q_i σ 7)) (C := RX2) (T := TX2) (N := 15) hx hb hts inT_X2 hown hK hP 0 rfl rfl 9 (by decide) (hts _ hlink) (fun _ h9 => h9) rfl hdg kk
theorem pf_disk_cut (hx : p.tables.exec = Jvm.exec) (hb : c.code = cc) (hts : ∀ w ∈ q_T, w.before args s = true) (hown : s.vm.findClass own = some m.cls) (hK : va_K D vwCl (af_T cI) s) (hP : va_P D vwCl (af_W a cI L σ) H) (hlink : Cond.fieldLink own index "ShingleHouse$Disk" "cut" "I" ∈ q_T) (hD : ∀ σ, va_D A (af_W a cI L σ)) (hS : va_S A s.heap H locs) {v : Int32} {K : q_St → Option β} (hF : q_nm (q_si σ 7 v) K = some z) (hdg : decode cc pc = .ok (.putfield index, 3)) (kk : ∀ (σ1 : q_St) (H : Heap) (locs : List Loc), K σ1 = some z → va_P D vwCl (af_W a cI L σ1) H → va_S A s.heap H locs → W p l e R s m args below meth c H locs cells slots Q (F0 m (pc + 3) ls rest)) : W p l e R s m args below meth c H locs cells slots Q (F0 m pc ls (.int v :: .ref (a 0) :: rest)) :=
  va_put (D := D) (ci := 2) (v := .int v) (ty := .int) (C := RX2) (T := TX2) (N := 15) hx hb hts inT_X2 tyX2 tyX2_ok nmX2 hown hK hP (hD σ) hS 0 rfl rfl 9 (by decide) (hts _ hlink) (fun _ h9 => h9) rfl (by decide +kernel) rfl rfl (Nat.le_of_ble_eq_true rfl) hdg (fun H1 locs1 hP1 _ hS1 => kk (q_si σ 7 v) H1 locs1 hF hP1 hS1)
theorem gf_disk_entryWrites (hx : p.tables.exec = Jvm.exec) (hb : c.code = cc) (hts : ∀ w ∈ q_T, w.before args s = true) (hown : s.vm.findClass own = some m.cls) (hK : va_K D vwCl (af_T cI) s) (hP : va_P D vwCl (af_W a cI L σ) H) (hlink : Cond.fieldLink own index "ShingleHouse$Disk" "entryWrites" "I" ∈ q_T) (hdg : decode cc pc = .ok (.getfield index, 3)) (kk : W p l e R s m args below meth c H locs cells slots Q (F0 m (pc + 3) ls (.int (q_i σ 8) :: rest))) : W p l e R s m args below meth c H locs cells slots Q (F0 m pc ls (.ref (a 0) :: rest)) :=
  va_get (D := D) (ci := 2) (v := .int (q_i σ 8)) (C := RX2) (T := TX2) (N := 15) hx hb hts inT_X2 hown hK hP 0 rfl rfl 10 (by decide) (hts _ hlink) (fun _ h9 => h9) rfl hdg kk
theorem pf_disk_entryWrites (hx : p.tables.exec = Jvm.exec) (hb : c.code = cc) (hts : ∀ w ∈ q_T, w.before args s = true) (hown : s.vm.findClass own = some m.cls) (hK : va_K D vwCl (af_T cI) s) (hP : va_P D vwCl (af_W a cI L σ) H) (hlink : Cond.fieldLink own index "ShingleHouse$Disk" "entryWrites" "I" ∈ q_T) (hD : ∀ σ, va_D A (af_W a cI L σ)) (hS : va_S A s.heap H locs) {v : Int32} {K : q_St → Option β} (hF : q_nm (q_si σ 8 v) K = some z) (hdg : decode cc pc = .ok (.putfield index, 3)) (kk : ∀ (σ1 : q_St) (H : Heap) (locs : List Loc), K σ1 = some z → va_P D vwCl (af_W a cI L σ1) H → va_S A s.heap H locs → W p l e R s m args below meth c H locs cells slots Q (F0 m (pc + 3) ls rest)) : W p l e R s m args below meth c H locs cells slots Q (F0 m pc ls (.int v :: .ref (a 0) :: rest)) :=
  va_put (D := D) (ci := 2) (v := .int v) (ty := .int) (C := RX2) (T := TX2) (N := 15) hx hb hts inT_X2 tyX2 tyX2_ok nmX2 hown hK hP (hD σ) hS 0 rfl rfl 10 (by decide) (hts _ hlink) (fun _ h9 => h9) rfl (by decide +kernel) rfl rfl (Nat.le_of_ble_eq_true rfl) hdg (fun H1 locs1 hP1 _ hS1 => kk (q_si σ 8 v) H1 locs1 hF hP1 hS1)
theorem gf_disk_bandWrites (hx : p.tables.exec = Jvm.exec) (hb : c.code = cc) (hts : ∀ w ∈ q_T, w.before args s = true) (hown : s.vm.findClass own = some m.cls) (hK : va_K D vwCl (af_T cI) s) (hP : va_P D vwCl (af_W a cI L σ) H) (hlink : Cond.fieldLink own index "ShingleHouse$Disk" "bandWrites" "I" ∈ q_T) (hdg : decode cc pc = .ok (.getfield index, 3)) (kk : W p l e R s m args below meth c H locs cells slots Q (F0 m (pc + 3) ls (.int (q_i σ 9) :: rest))) : W p l e R s m args below meth c H locs cells slots Q (F0 m pc ls (.ref (a 0) :: rest)) :=
  va_get (D := D) (ci := 2) (v := .int (q_i σ 9)) (C := RX2) (T := TX2) (N := 15) hx hb hts inT_X2 hown hK hP 0 rfl rfl 11 (by decide) (hts _ hlink) (fun _ h9 => h9) rfl hdg kk
theorem pf_disk_bandWrites (hx : p.tables.exec = Jvm.exec) (hb : c.code = cc) (hts : ∀ w ∈ q_T, w.before args s = true) (hown : s.vm.findClass own = some m.cls) (hK : va_K D vwCl (af_T cI) s) (hP : va_P D vwCl (af_W a cI L σ) H) (hlink : Cond.fieldLink own index "ShingleHouse$Disk" "bandWrites" "I" ∈ q_T) (hD : ∀ σ, va_D A (af_W a cI L σ)) (hS : va_S A s.heap H locs) {v : Int32} {K : q_St → Option β} (hF : q_nm (q_si σ 9 v) K = some z) (hdg : decode cc pc = .ok (.putfield index, 3)) (kk : ∀ (σ1 : q_St) (H : Heap) (locs : List Loc), K σ1 = some z → va_P D vwCl (af_W a cI L σ1) H → va_S A s.heap H locs → W p l e R s m args below meth c H locs cells slots Q (F0 m (pc + 3) ls rest)) : W p l e R s m args below meth c H locs cells slots Q (F0 m pc ls (.int v :: .ref (a 0) :: rest)) :=
  va_put (D := D) (ci := 2) (v := .int v) (ty := .int) (C := RX2) (T := TX2) (N := 15) hx hb hts inT_X2 tyX2 tyX2_ok nmX2 hown hK hP (hD σ) hS 0 rfl rfl 11 (by decide) (hts _ hlink) (fun _ h9 => h9) rfl (by decide +kernel) rfl rfl (Nat.le_of_ble_eq_true rfl) hdg (fun H1 locs1 hP1 _ hS1 => kk (q_si σ 9 v) H1 locs1 hF hP1 hS1)
theorem gf_disk_scratchWrites (hx : p.tables.exec = Jvm.exec) (hb : c.code = cc) (hts : ∀ w ∈ q_T, w.before args s = true) (hown : s.vm.findClass own = some m.cls) (hK : va_K D vwCl (af_T cI) s) (hP : va_P D vwCl (af_W a cI L σ) H) (hlink : Cond.fieldLink own index "ShingleHouse$Disk" "scratchWrites" "I" ∈ q_T) (hdg : decode cc pc = .ok (.getfield index, 3)) (kk : W p l e R s m args below meth c H locs cells slots Q (F0 m (pc + 3) ls (.int (q_i σ 10) :: rest))) : W p l e R s m args below meth c H locs cells slots Q (F0 m pc ls (.ref (a 0) :: rest)) :=
  va_get (D := D) (ci := 2) (v := .int (q_i σ 10)) (C := RX2) (T := TX2) (N := 15) hx hb hts inT_X2 hown hK hP 0 rfl rfl 12 (by decide) (hts _ hlink) (fun _ h9 => h9) rfl hdg kk
theorem pf_disk_scratchWrites (hx : p.tables.exec = Jvm.exec) (hb : c.code = cc) (hts : ∀ w ∈ q_T, w.before args s = true) (hown : s.vm.findClass own = some m.cls) (hK : va_K D vwCl (af_T cI) s) (hP : va_P D vwCl (af_W a cI L σ) H) (hlink : Cond.fieldLink own index "ShingleHouse$Disk" "scratchWrites" "I" ∈ q_T) (hD : ∀ σ, va_D A (af_W a cI L σ)) (hS : va_S A s.heap H locs) {v : Int32} {K : q_St → Option β} (hF : q_nm (q_si σ 10 v) K = some z) (hdg : decode cc pc = .ok (.putfield index, 3)) (kk : ∀ (σ1 : q_St) (H : Heap) (locs : List Loc), K σ1 = some z → va_P D vwCl (af_W a cI L σ1) H → va_S A s.heap H locs → W p l e R s m args below meth c H locs cells slots Q (F0 m (pc + 3) ls rest)) : W p l e R s m args below meth c H locs cells slots Q (F0 m pc ls (.int v :: .ref (a 0) :: rest)) :=
  va_put (D := D) (ci := 2) (v := .int v) (ty := .int) (C := RX2) (T := TX2) (N := 15) hx hb hts inT_X2 tyX2 tyX2_ok nmX2 hown hK hP (hD σ) hS 0 rfl rfl 12 (by decide) (hts _ hlink) (fun _ h9 => h9) rfl (by decide +kernel) rfl rfl (Nat.le_of_ble_eq_true rfl) hdg (fun H1 locs1 hP1 _ hS1 => kk (q_si σ 10 v) H1 locs1 hF hP1 hS1)
theorem gf_disk_recordWrites (hx : p.tables.exec = Jvm.exec) (hb : c.code = cc) (hts : ∀ w ∈ q_T, w.before args s = true) (hown : s.vm.findClass own = some m.cls) (hK : va_K D vwCl (af_T cI) s) (hP : va_P D vwCl (af_W a cI L σ) H) (hlink : Cond.fieldLink own index "ShingleHouse$Disk" "recordWrites" "I" ∈ q_T) (hdg : decode cc pc = .ok (.getfield index, 3)) (kk : W p l e R s m args below meth c H locs cells slots Q (F0 m (pc + 3) ls (.int (q_i σ 11) :: rest))) : W p l e R s m args below meth c H locs cells slots Q (F0 m pc ls (.ref (a 0) :: rest)) :=
  va_get (D := D) (ci := 2) (v := .int (q_i σ 11)) (C := RX2) (T := TX2) (N := 15) hx hb hts inT_X2 hown hK hP 0 rfl rfl 13 (by decide) (hts _ hlink) (fun _ h9 => h9) rfl hdg kk
theorem pf_disk_recordWrites (hx : p.tables.exec = Jvm.exec) (hb : c.code = cc) (hts : ∀ w ∈ q_T, w.before args s = true) (hown : s.vm.findClass own = some m.cls) (hK : va_K D vwCl (af_T cI) s) (hP : va_P D vwCl (af_W a cI L σ) H) (hlink : Cond.fieldLink own index "ShingleHouse$Disk" "recordWrites" "I" ∈ q_T) (hD : ∀ σ, va_D A (af_W a cI L σ)) (hS : va_S A s.heap H locs) {v : Int32} {K : q_St → Option β} (hF : q_nm (q_si σ 11 v) K = some z) (hdg : decode cc pc = .ok (.putfield index, 3)) (kk : ∀ (σ1 : q_St) (H : Heap) (locs : List Loc), K σ1 = some z → va_P D vwCl (af_W a cI L σ1) H → va_S A s.heap H locs → W p l e R s m args below meth c H locs cells slots Q (F0 m (pc + 3) ls rest)) : W p l e R s m args below meth c H locs cells slots Q (F0 m pc ls (.int v :: .ref (a 0) :: rest)) :=
  va_put (D := D) (ci := 2) (v := .int v) (ty := .int) (C := RX2) (T := TX2) (N := 15) hx hb hts inT_X2 tyX2 tyX2_ok nmX2 hown hK hP (hD σ) hS 0 rfl rfl 13 (by decide) (hts _ hlink) (fun _ h9 => h9) rfl (by decide +kernel) rfl rfl (Nat.le_of_ble_eq_true rfl) hdg (fun H1 locs1 hP1 _ hS1 => kk (q_si σ 11 v) H1 locs1 hF hP1 hS1)
theorem gf_disk_misreads (hx : p.tables.exec = Jvm.exec) (hb : c.code = cc) (hts : ∀ w ∈ q_T, w.before args s = true) (hown : s.vm.findClass own = some m.cls) (hK : va_K D vwCl (af_T cI) s) (hP : va_P D vwCl (af_W a cI L σ) H) (hlink : Cond.fieldLink own index "ShingleHouse$Disk" "misreads" "I" ∈ q_T) (hdg : decode cc pc = .ok (.getfield index, 3)) (kk : W p l e R s m args below meth c H locs cells slots Q (F0 m (pc + 3) ls (.int (q_i σ 12) :: rest))) : W p l e R s m args below meth c H locs cells slots Q (F0 m pc ls (.ref (a 0) :: rest)) :=
  va_get (D := D) (ci := 2) (v := .int (q_i σ 12)) (C := RX2) (T := TX2) (N := 15) hx hb hts inT_X2 hown hK hP 0 rfl rfl 14 (by decide) (hts _ hlink) (fun _ h9 => h9) rfl hdg kk
theorem pf_disk_misreads (hx : p.tables.exec = Jvm.exec) (hb : c.code = cc) (hts : ∀ w ∈ q_T, w.before args s = true) (hown : s.vm.findClass own = some m.cls) (hK : va_K D vwCl (af_T cI) s) (hP : va_P D vwCl (af_W a cI L σ) H) (hlink : Cond.fieldLink own index "ShingleHouse$Disk" "misreads" "I" ∈ q_T) (hD : ∀ σ, va_D A (af_W a cI L σ)) (hS : va_S A s.heap H locs) {v : Int32} {K : q_St → Option β} (hF : q_nm (q_si σ 12 v) K = some z) (hdg : decode cc pc = .ok (.putfield index, 3)) (kk : ∀ (σ1 : q_St) (H : Heap) (locs : List Loc), K σ1 = some z → va_P D vwCl (af_W a cI L σ1) H → va_S A s.heap H locs → W p l e R s m args below meth c H locs cells slots Q (F0 m (pc + 3) ls rest)) : W p l e R s m args below meth c H locs cells slots Q (F0 m pc ls (.int v :: .ref (a 0) :: rest)) :=
  va_put (D := D) (ci := 2) (v := .int v) (ty := .int) (C := RX2) (T := TX2) (N := 15) hx hb hts inT_X2 tyX2 tyX2_ok nmX2 hown hK hP (hD σ) hS 0 rfl rfl 14 (by decide) (hts _ hlink) (fun _ h9 => h9) rfl (by decide +kernel) rfl rfl (Nat.le_of_ble_eq_true rfl) hdg (fun H1 locs1 hP1 _ hS1 => kk (q_si σ 12 v) H1 locs1 hF hP1 hS1)
theorem lf_disk_cells (hx : p.tables.exec = Jvm.exec) (hb : c.code = cc) (hK : va_K D vwCl (af_T cI) s) (hP : va_P D vwCl (af_W a cI L σ) H) {i : Int32} {K : Int64 → Option β} (hF : q_rd (L 0) (q_j σ 0) i K = some z) (hdg : decode cc pc = .ok (.laload, 1)) (kk : ∀ v : Int64, K v = some z → W p l e R s m args below meth c H locs cells slots Q (F0 m (pc + 1) ls (.long v :: rest))) : W p l e R s m args below meth c H locs cells slots Q (F0 m pc ls (.int i :: .ref (a 1) :: rest)) :=
  sx_lald hx hb hK hP 1 0 rfl rfl hF hdg kk
theorem uf_disk_cells (hx : p.tables.exec = Jvm.exec) (hb : c.code = cc) (hK : va_K D vwCl (af_T cI) s) (hP : va_P D vwCl (af_W a cI L σ) H) (hD : ∀ σ, va_D A (af_W a cI L σ)) (hS : va_S A s.heap H locs) {i : Int32} {x : Int64} {K : q_St → Option β} (hF : q_wa (L 0) i (q_sj σ 0 (vp_updL (q_j σ 0) i.toNatClampNeg x)) K = some z) (hdg : decode cc pc = .ok (.lastore, 1)) (kk : ∀ (σ1 : q_St) (H : Heap) (locs : List Loc), K σ1 = some z → va_P D vwCl (af_W a cI L σ1) H → va_S A s.heap H locs → W p l e R s m args below meth c H locs cells slots Q (F0 m (pc + 1) ls rest)) : W p l e R s m args below meth c H locs cells slots Q (F0 m pc ls (.long x :: .int i :: .ref (a 1) :: rest)) :=
  va_last hx hb hK hP (hD σ) hS 1 0 rfl rfl (q_wa_some hF).1 hdg (fun H1 locs1 hP1 _ hS1 => kk (q_sj σ 0 (vp_updL (q_j σ 0) i.toNatClampNeg x)) H1 locs1 (q_wa_some hF).2 hP1 hS1)
theorem nf_disk_cells (hx : p.tables.exec = Jvm.exec) (hb : c.code = cc) (hK : va_K D vwCl (af_T cI) s) (hP : va_P D vwCl (af_W a cI L σ) H) (hdg : decode cc pc = .ok (.arraylength, 1)) (kk : W p l e R s m args below meth c H locs cells slots Q (F0 m (pc + 1) ls (.int (nI (L 0)) :: rest))) : W p l e R s m args below meth c H locs cells slots Q (F0 m pc ls (.ref (a 1) :: rest)) :=
  va_alen hx hb hK hP 1 0 rfl rfl rfl hdg kk
theorem lf_disk_lost (hx : p.tables.exec = Jvm.exec) (hb : c.code = cc) (hK : va_K D vwCl (af_T cI) s) (hP : va_P D vwCl (af_W a cI L σ) H) {i : Int32} {K : Int32 → Option β} (hF : q_rd (L 1) (q_a σ 0) i K = some z) (hdg : decode cc pc = .ok (.baload, 1)) (kk : ∀ v : Int32, K v = some z → W p l e R s m args below meth c H locs cells slots Q (F0 m (pc + 1) ls (.int v :: rest))) : W p l e R s m args below meth c H locs cells slots Q (F0 m pc ls (.int i :: .ref (a 2) :: rest)) :=
  sx_zald hx hb hK hP 2 1 rfl rfl hF hdg kk
theorem uf_disk_lost (hx : p.tables.exec = Jvm.exec) (hb : c.code = cc) (hK : va_K D vwCl (af_T cI) s) (hP : va_P D vwCl (af_W a cI L σ) H) (hD : ∀ σ, va_D A (af_W a cI L σ)) (hS : va_S A s.heap H locs) {i : Int32} {x : Int32} {K : q_St → Option β} (hF : q_wa (L 1) i (q_sa σ 0 (upd (q_a σ 0) i.toNatClampNeg (vp_nar .boolean x))) K = some z) (hdg : decode cc pc = .ok (.bastore, 1)) (kk : ∀ (σ1 : q_St) (H : Heap) (locs : List Loc), K σ1 = some z → va_P D vwCl (af_W a cI L σ1) H → va_S A s.heap H locs → W p l e R s m args below meth c H locs cells slots Q (F0 m (pc + 1) ls rest)) : W p l e R s m args below meth c H locs cells slots Q (F0 m pc ls (.int x :: .int i :: .ref (a 2) :: rest)) :=
  va_zast hx hb hK hP (hD σ) hS 2 1 rfl rfl (q_wa_some hF).1 hdg (fun H1 locs1 hP1 _ hS1 => kk (q_sa σ 0 (upd (q_a σ 0) i.toNatClampNeg (vp_nar .boolean x))) H1 locs1 (q_wa_some hF).2 hP1 hS1)
theorem nf_disk_lost (hx : p.tables.exec = Jvm.exec) (hb : c.code = cc) (hK : va_K D vwCl (af_T cI) s) (hP : va_P D vwCl (af_W a cI L σ) H) (hdg : decode cc pc = .ok (.arraylength, 1)) (kk : W p l e R s m args below meth c H locs cells slots Q (F0 m (pc + 1) ls (.int (nI (L 1)) :: rest))) : W p l e R s m args below meth c H locs cells slots Q (F0 m pc ls (.ref (a 2) :: rest)) :=
  va_alen hx hb hK hP 2 1 rfl rfl rfl hdg kk
end QWf

section QWg
variable {p : Program} {l : Launch} {e : Env} {R : Room} {s : State} {m : MethodId} {args : Array Value} {below : List Frame} {meth : Method} {c : Code} {H : Heap} {locs : List Loc} {cells slots : Nat} {Q : State → Prop}
variable {cc : ByteArray} {pc : Nat} {ls : Array Slot} {rest : List Value} {D : va_G} {A : Nat → Prop} {H0 : Heap} {σ σ0 σ1 : q_St} {β : Type} {z : β} {own : String} {index : Nat} {a : Nat → Nat} {cI : Nat → ClassId} {L : Nat → Nat}
theorem lg_g_row (hx : p.tables.exec = Jvm.exec) (hb : c.code = cc) (hK : va_K D vwCl (ag_T cI) s) (hP : va_P D vwCl (ag_W a cI L σ) H) {i : Int32} {K : Int32 → Option β} (hF : q_rd (L 0) (q_a σ 0) i K = some z) (hdg : decode cc pc = .ok (.iaload, 1)) (kk : ∀ v : Int32, K v = some z → W p l e R s m args below meth c H locs cells slots Q (F0 m (pc + 1) ls (.int v :: rest))) : W p l e R s m args below meth c H locs cells slots Q (F0 m pc ls (.int i :: .ref (a 0) :: rest)) :=
  sx_iald hx hb hK hP 0 0 rfl rfl hF hdg kk
theorem ug_g_row (hx : p.tables.exec = Jvm.exec) (hb : c.code = cc) (hK : va_K D vwCl (ag_T cI) s) (hP : va_P D vwCl (ag_W a cI L σ) H) (hD : ∀ σ, va_D A (ag_W a cI L σ)) (hS : va_S A s.heap H locs) {i : Int32} {x : Int32} {K : q_St → Option β} (hF : q_wa (L 0) i (q_sa σ 0 (upd (q_a σ 0) i.toNatClampNeg x)) K = some z) (hdg : decode cc pc = .ok (.iastore, 1)) (kk : ∀ (σ1 : q_St) (H : Heap) (locs : List Loc), K σ1 = some z → va_P D vwCl (ag_W a cI L σ1) H → va_S A s.heap H locs → W p l e R s m args below meth c H locs cells slots Q (F0 m (pc + 1) ls rest)) : W p l e R s m args below meth c H locs cells slots Q (F0 m pc ls (.int x :: .int i :: .ref (a 0) :: rest)) :=
  va_iast hx hb hK hP (hD σ) hS 0 0 rfl rfl (q_wa_some hF).1 hdg (fun H1 locs1 hP1 _ hS1 => kk (q_sa σ 0 (upd (q_a σ 0) i.toNatClampNeg x)) H1 locs1 (q_wa_some hF).2 hP1 hS1)
theorem ng_g_row (hx : p.tables.exec = Jvm.exec) (hb : c.code = cc) (hK : va_K D vwCl (ag_T cI) s) (hP : va_P D vwCl (ag_W a cI L σ) H) (hdg : decode cc pc = .ok (.arraylength, 1)) (kk : W p l e R s m args below meth c H locs cells slots Q (F0 m (pc + 1) ls (.int (nI (L 0)) :: rest))) : W p l e R s m args below meth c H locs cells slots Q (F0 m pc ls (.ref (a 0) :: rest)) :=
  va_alen hx hb hK hP 0 0 rfl rfl rfl hdg kk
end QWg

def fF2_format_b43 (L : Nat → Nat) (N : Nat) (ih2 : Int32 → Int32 → Int32 → q_St → Option (Unit × q_St)) : Int32 → Int32 → Int32 → q_St → Option (Unit × q_St) := fun x1 x2 x3 u => (q_nm (x3 + 1) (fun v3 => (ih2 x1 x2 v3 u)))
def fF2_format_b2 (L : Nat → Nat) (N : Nat) (ih2 : Int32 → Int32 → Int32 → q_St → Option (Unit × q_St)) : Int32 → Int32 → Int32 → q_St → Option (Unit × q_St) := fun x1 x2 x3 u => (if x1 ≤ x3 then (if x2 < 0 then (some ((), u)) else (if (q_i u 4) ≤ x2 then (some ((), u)) else (q_wa (L 0) (x2 * 8) (q_sj u 0 (vp_updL (q_j u 0) (Int32.toNatClampNeg (x2 * 8)) 4128770)) (fun u1 => (some ((), u1)))))) else (q_nm (640 + (x3 / 64)) (fun v2 => (if (nI (L 0)) ≤ v2 then (fF2_format_b43 L N ih2 x1 x2 x3 u) else (q_rd (L 0) (q_j u 0) v2 (fun v4 => (q_wa (L 0) v2 (q_sj u 0 (vp_updL (q_j u 0) (Int32.toNatClampNeg v2) (v4 ||| (q_lshl 1 (x3 - x3 / 64 * 64))))) (fun u5 => (fF2_format_b43 L N ih2 x1 x2 x3 u5)))))))))
def fF2_format (L : Nat → Nat) (N : Nat) : Int32 → Int32 → q_St → Option (Unit × q_St) := fun o1 o2 u => (q_lp (fF2_format_b2 L N) (fun _ _ _ _ => none) N o1 o2 0 u)
def fG7_fill_b5 (L : Nat → Nat) (N : Nat) (ih5 : Int32 → Int32 → Int32 → q_St → Option (Unit × q_St)) : Int32 → Int32 → Int32 → q_St → Option (Unit × q_St) := fun x1 x2 x3 u => (if x3 ≤ x2 then (some ((), u)) else (q_wa (L 0) x2 (q_sa u 0 (upd (q_a u 0) (Int32.toNatClampNeg x2) x1)) (fun u2 => (q_nm (x2 + 1) (fun v3 => (ih5 x1 v3 x3 u2))))))
def fG7_fill (L : Nat → Nat) (N : Nat) : Int32 → q_St → Option (Unit × q_St) := fun o1 u => (q_nm (nI (L 0)) (fun v1 => (q_lp (fG7_fill_b5 L N) (fun _ _ _ _ => none) N o1 0 v1 u)))
set_option maxHeartbeats 4000000 in
set_option maxRecDepth 100000 in
theorem kt_F2_format {N : Nat} {l : Launch} {D : va_G} {a : Nat → Nat} {cI : Nat → ClassId} {L : Nat → Nat} (hD : ∀ σ, va_D (af_A a) (af_W a cI L σ)) {o1 : Int32} {o2 : Int32} {u σ0 : q_St} {r0 : Unit} (hF : fF2_format L N o1 o2 u = some (r0, σ0)) : Met l yX2_format (Cond.code yX2_format cX2_format 5 none :: q_T) ({ frames := 0, cells := 0, slots := 0, locals := 0 } : Room) (q_P D vwCl (af_T cI) (af_W a cI L) [.ref (a 0), .int o1, .int o2] u) (q_Qv D vwCl (af_W a cI L) (af_A a) σ0) 0 0 (af_A a) := by
  refine Met.ofW (cc := cX2_format) (maxL := 5) (ret := none) (by decide) rfl ?_
  intro p e s m args below meth c s₁ B hml hv
  obtain ⟨rfl, hP, hK⟩ := hv
  have hx := B.exec
  have hb := B.bytes
  have hr := B.returns
  have hts := q_ts (atoms_spec (ws := Cond.code yX2_format cX2_format 5 none :: q_T) B.pre)
  have hown : s.vm.findClass RX2 = some m.cls := findClass_of_methodNamed B.named
  have hlocks := B.notSynchronized
  have hS : va_S (af_A a) s.heap s.heap [] := va_S.rf
  have hl := lv_entry ([.ref (a 0), .int o1, .int o2]) (n := 5) (Nat.le_of_ble_eq_true rfl)
  rw [lg_entry_eq]
  generalize (lg_sl ([.ref (a 0), .int o1, .int o2]) ++ List.replicate (5 - (lg_sl ([.ref (a 0), .int o1, .int o2])).length) Slot.unset).toArray = ls at hl ⊢
  have hl : lv_has ls 5 [(0, .ref (a 0)), (1, .int o1), (2, .int o2)] := hl
  have hB43 : ∀ (ih2 : Int32 → Int32 → Int32 → q_St → Option (Unit × q_St)) (hi2 : ∀ (x1 : Int32) (x2 : Int32) (x3 : Int32) (u : q_St) (ls : Array Slot), lv_has ls 5 [(0, .ref (a 0)), (1, .int x1), (2, .int x2), (3, .int x3)] → ih2 x1 x2 x3 u = some (r0, σ0) → ∀ (H : Heap) (locs : List Loc), va_P D vwCl (af_W a cI L u) H → va_S (af_A a) s.heap H locs → W p l e (headSpec (Cond.code yX2_format cX2_format 5 none :: q_T) ({ frames := 0, cells := 0, slots := 0, locals := 0 } : Room)).room s m ([.ref (a 0), .int o1, .int o2] : List Value).toArray below meth c H locs 0 0 (MQ below (q_Qv D vwCl (af_W a cI L) (af_A a) σ0) ([.ref (a 0), .int o1, .int o2] : List Value).toArray s 0 0 (af_A a)) (F0 m 2 ls [])), ∀ (x1 : Int32) (x2 : Int32) (x3 : Int32) (u : q_St) (ls : Array Slot), lv_has ls 5 [(0, .ref (a 0)), (1, .int x1), (2, .int x2), (3, .int x3)] → fF2_format_b43 L N ih2 x1 x2 x3 u = some (r0, σ0) → ∀ (H : Heap) (locs : List Loc), va_P D vwCl (af_W a cI L u) H → va_S (af_A a) s.heap H locs → W p l e (headSpec (Cond.code yX2_format cX2_format 5 none :: q_T) ({ frames := 0, cells := 0, slots := 0, locals := 0 } : Room)).room s m ([.ref (a 0), .int o1, .int o2] : List Value).toArray below meth c H locs 0 0 (MQ below (q_Qv D vwCl (af_W a cI L) (af_A a) σ0) ([.ref (a 0), .int o1, .int o2] : List Value).toArray s 0 0 (af_A a)) (F0 m 43 ls []) := by
    intro ih2 hi2 x1 x2 x3 u ls hl hF _ _ hP hS
    unfold fF2_format_b43 at hF
    refine sx_iinc (d := 1) (k := 3) (lv2 := [(0, .ref (a 0)), (1, .int x1), (2, .int x2)]) hx hb hF dX2_format_43 hl rfl (by decide) (by decide) rfl (fun v3 hF ls hl => ?_)
    refine lv_goto (tgt := 2) hx hb dX2_format_46 (by decide) ?_
    exact hi2 x1 x2 v3 u ls (lv_sub hl [1, 2, 3, 0] rfl) hF _ _ hP hS
  have hB2 : ∀ (n : Nat) (x1 : Int32) (x2 : Int32) (x3 : Int32) (u : q_St) (ls : Array Slot), lv_has ls 5 [(0, .ref (a 0)), (1, .int x1), (2, .int x2), (3, .int x3)] → q_lp (fF2_format_b2 L N) (fun _ _ _ _ => none) n x1 x2 x3 u = some (r0, σ0) → ∀ (H : Heap) (locs : List Loc), va_P D vwCl (af_W a cI L u) H → va_S (af_A a) s.heap H locs → W p l e (headSpec (Cond.code yX2_format cX2_format 5 none :: q_T) ({ frames := 0, cells := 0, slots := 0, locals := 0 } : Room)).room s m ([.ref (a 0), .int o1, .int o2] : List Value).toArray below meth c H locs 0 0 (MQ below (q_Qv D vwCl (af_W a cI L) (af_A a) σ0) ([.ref (a 0), .int o1, .int o2] : List Value).toArray s 0 0 (af_A a)) (F0 m 2 ls []) := by
    intro n
    induction n with
    | zero => intro x1 x2 x3 u ls hl hF; exact absurd (show (none : Option (Unit × q_St)) = some _ from hF) (fun h => nomatch h)
    | succ n hi2 =>
      intro x1 x2 x3 u ls hl hF _ _ hP hS
      obtain ⟨ih2, hih⟩ : ∃ q, q = q_lp (fF2_format_b2 L N) (fun _ _ _ _ => none) n := ⟨_, rfl⟩
      rw [← hih] at hi2
      have hF : fF2_format_b2 L N (q_lp (fF2_format_b2 L N) (fun _ _ _ _ => none) n) x1 x2 x3 u = some (r0, σ0) := hF
      rw [← hih] at hF
      clear hih
      unfold fF2_format_b2 at hF
      refine lv_iload_n hx hb dX2_format_2 rfl (lv_at hl 3 rfl) ?_
      refine lv_iload_n hx hb dX2_format_3 rfl (lv_at hl 1 rfl) ?_
      refine sx_icmp_ge (tgt := 49) hx hb hF dX2_format_4 (by decide) (fun hF => ?_) (fun hF => ?_)
      · refine lv_iload_n hx hb dX2_format_49 rfl (lv_at hl 2 rfl) ?_
        refine sx_if_lt (tgt := 73) hx hb hF dX2_format_50 (by decide) (fun hF => ?_) (fun hF => ?_)
        · exact sx_retv (Wd := (af_W a cI L)) (σ := u) hx hb hr hF hP hS hlocks dX2_format_73
        · refine lv_iload_n hx hb dX2_format_53 rfl (lv_at hl 2 rfl) ?_
          refine lv_aload_n hx hb dX2_format_54 rfl (lv_at hl 0 rfl) ?_
          refine gf_disk_sectors hx hb hts hown hK hP fl_X2_33 dX2_format_55 ?_
          refine sx_icmp_ge (tgt := 73) hx hb hF dX2_format_58 (by decide) (fun hF => ?_) (fun hF => ?_)
          · exact sx_retv (Wd := (af_W a cI L)) (σ := u) hx hb hr hF hP hS hlocks dX2_format_73
          · refine lv_aload_n hx hb dX2_format_61 rfl (lv_at hl 0 rfl) ?_
            refine gf_disk_cells hx hb hts hown hK hP fl_X2_39 dX2_format_62 ?_
            refine lv_iload_n hx hb dX2_format_65 rfl (lv_at hl 2 rfl) ?_
            refine lv_bipush (v := 8) hx hb dX2_format_66 (by decide) ?_
            refine lv_imul hx hb dX2_format_68 ?_
            refine lv_ldc2 (v := 4128770) hx hb hown (hts _ kc_X2_54) dX2_format_69 ?_
            refine uf_disk_cells hx hb hK hP hD hS hF dX2_format_72 (fun u1 H locs hF hP hS => ?_)
            exact sx_retv (Wd := (af_W a cI L)) (σ := u1) hx hb hr hF hP hS hlocks dX2_format_73
      · refine lv_sipush (v := 640) hx hb dX2_format_7 (by decide) ?_
        refine lv_iload_n hx hb dX2_format_10 rfl (lv_at hl 3 rfl) ?_
        refine lv_bipush (v := 64) hx hb dX2_format_11 (by decide) ?_
        refine lv_idiv hx hb dX2_format_13 (by decide) ?_
        refine lv_iadd hx hb dX2_format_14 ?_
        refine sx_istore (lv2 := [(0, .ref (a 0)), (1, .int x1), (2, .int x2), (3, .int x3)]) hx hb hF dX2_format_15 hl (by decide) rfl (fun v2 hF ls hl => ?_)
        refine lv_iload hx hb dX2_format_17 (lv_at hl 0 rfl) ?_
        refine lv_aload_n hx hb dX2_format_19 rfl (lv_at hl 1 rfl) ?_
        refine gf_disk_cells hx hb hts hown hK hP fl_X2_39 dX2_format_20 ?_
        refine nf_disk_cells hx hb hK hP dX2_format_23 ?_
        refine sx_icmp_ge (tgt := 43) hx hb hF dX2_format_24 (by decide) (fun hF => ?_) (fun hF => ?_)
        · exact hB43 ih2 hi2 x1 x2 x3 u ls (lv_sub hl [1, 2, 3, 4] rfl) hF _ _ hP hS
        · refine lv_aload_n hx hb dX2_format_27 rfl (lv_at hl 1 rfl) ?_
          refine gf_disk_cells hx hb hts hown hK hP fl_X2_39 dX2_format_28 ?_
          refine lv_iload hx hb dX2_format_31 (lv_at hl 0 rfl) ?_
          refine lv_dup2_11 hx hb dX2_format_33 rfl rfl ?_
          refine lf_disk_cells hx hb hK hP hF dX2_format_34 (fun v4 hF => ?_)
          refine lv_lconst (v := 1) hx hb dX2_format_35 (by decide) ?_
          refine lv_iload_n hx hb dX2_format_36 rfl (lv_at hl 4 rfl) ?_
          refine lv_bipush (v := 64) hx hb dX2_format_37 (by decide) ?_
          refine lv_irem hx hb dX2_format_39 (by decide) ?_
          refine lv_lshl (v := q_lshl 1 (x3 - x3 / 64 * 64)) hx hb dX2_format_40 rfl ?_
          refine lv_lor hx hb dX2_format_41 ?_
          refine uf_disk_cells hx hb hK hP hD hS hF dX2_format_42 (fun u5 H locs hF hP hS => ?_)
          exact hB43 ih2 hi2 x1 x2 x3 u5 ls (lv_sub hl [1, 2, 3, 4] rfl) hF _ _ hP hS
  unfold fF2_format at hF
  refine lv_iconst (v := 0) hx hb dX2_format_0 (by decide) ?_
  refine lv_istore_n (lv' := [(3, .int 0), (0, .ref (a 0)), (1, .int o1), (2, .int o2)]) hx hb dX2_format_1 rfl hl (by decide) rfl (fun ls hl => ?_)
  exact hB2 N o1 o2 0 u ls (lv_sub hl [1, 2, 3, 0] rfl) hF _ _ hP hS
set_option maxHeartbeats 4000000 in
set_option maxRecDepth 100000 in
theorem kt_G7_fill {N : Nat} {l : Launch} {D : va_G} {a : Nat → Nat} {cI : Nat → ClassId} {L : Nat → Nat} (hD : ∀ σ, va_D (ag_A a) (ag_W a cI L σ)) {o1 : Int32} {u σ0 : q_St} {r0 : Unit} (hF : fG7_fill L N o1 u = some (r0, σ0)) : Met l yJ7_fill_53178 (Cond.code yJ7_fill_53178 cJ7_fill_53178 4 none :: q_T) ({ frames := 0, cells := 0, slots := 0, locals := 0 } : Room) (q_P D vwCl (ag_T cI) (ag_W a cI L) [.ref (a 0), .int o1] u) (q_Qv D vwCl (ag_W a cI L) (ag_A a) σ0) 0 0 (ag_A a) := by
  refine Met.ofW (cc := cJ7_fill_53178) (maxL := 4) (ret := none) (by decide) rfl ?_
  intro p e s m args below meth c s₁ B hml hv
  obtain ⟨rfl, hP, hK⟩ := hv
  have hx := B.exec
  have hb := B.bytes
  have hr := B.returns
  have hts := q_ts (atoms_spec (ws := Cond.code yJ7_fill_53178 cJ7_fill_53178 4 none :: q_T) B.pre)
  have hown : s.vm.findClass RJ7 = some m.cls := findClass_of_methodNamed B.named
  have hlocks := B.notSynchronized
  have hS : va_S (ag_A a) s.heap s.heap [] := va_S.rf
  have hl := lv_entry ([.ref (a 0), .int o1]) (n := 4) (Nat.le_of_ble_eq_true rfl)
  rw [lg_entry_eq]
  generalize (lg_sl ([.ref (a 0), .int o1]) ++ List.replicate (4 - (lg_sl ([.ref (a 0), .int o1])).length) Slot.unset).toArray = ls at hl ⊢
  have hl : lv_has ls 4 [(0, .ref (a 0)), (1, .int o1)] := hl
  have hB5 : ∀ (n : Nat) (x1 : Int32) (x2 : Int32) (x3 : Int32) (u : q_St) (ls : Array Slot), lv_has ls 4 [(0, .ref (a 0)), (1, .int x1), (2, .int x2), (3, .int x3)] → q_lp (fG7_fill_b5 L N) (fun _ _ _ _ => none) n x1 x2 x3 u = some (r0, σ0) → ∀ (H : Heap) (locs : List Loc), va_P D vwCl (ag_W a cI L u) H → va_S (ag_A a) s.heap H locs → W p l e (headSpec (Cond.code yJ7_fill_53178 cJ7_fill_53178 4 none :: q_T) ({ frames := 0, cells := 0, slots := 0, locals := 0 } : Room)).room s m ([.ref (a 0), .int o1] : List Value).toArray below meth c H locs 0 0 (MQ below (q_Qv D vwCl (ag_W a cI L) (ag_A a) σ0) ([.ref (a 0), .int o1] : List Value).toArray s 0 0 (ag_A a)) (F0 m 5 ls []) := by
    intro n
    induction n with
    | zero => intro x1 x2 x3 u ls hl hF; exact absurd (show (none : Option (Unit × q_St)) = some _ from hF) (fun h => nomatch h)
    | succ n hi5 =>
      intro x1 x2 x3 u ls hl hF _ _ hP hS
      obtain ⟨ih5, hih⟩ : ∃ q, q = q_lp (fG7_fill_b5 L N) (fun _ _ _ _ => none) n := ⟨_, rfl⟩
      rw [← hih] at hi5
      have hF : fG7_fill_b5 L N (q_lp (fG7_fill_b5 L N) (fun _ _ _ _ => none) n) x1 x2 x3 u = some (r0, σ0) := hF
      rw [← hih] at hF
      clear hih
      unfold fG7_fill_b5 at hF
      refine lv_iload_n hx hb dJ7_fill_53178_5 rfl (lv_at hl 2 rfl) ?_
      refine lv_iload_n hx hb dJ7_fill_53178_6 rfl (lv_at hl 3 rfl) ?_
      refine sx_icmp_ge (tgt := 20) hx hb hF dJ7_fill_53178_7 (by decide) (fun hF => ?_) (fun hF => ?_)
      · exact sx_retv (Wd := (ag_W a cI L)) (σ := u) hx hb hr hF hP hS hlocks dJ7_fill_53178_20
      · refine lv_aload_n hx hb dJ7_fill_53178_10 rfl (lv_at hl 0 rfl) ?_
        refine lv_iload_n hx hb dJ7_fill_53178_11 rfl (lv_at hl 2 rfl) ?_
        refine lv_iload_n hx hb dJ7_fill_53178_12 rfl (lv_at hl 1 rfl) ?_
        refine ug_g_row hx hb hK hP hD hS hF dJ7_fill_53178_13 (fun u2 H locs hF hP hS => ?_)
        refine sx_iinc (d := 1) (k := 2) (lv2 := [(0, .ref (a 0)), (1, .int x1), (3, .int x3)]) hx hb hF dJ7_fill_53178_14 hl rfl (by decide) (by decide) rfl (fun v3 hF ls hl => ?_)
        refine lv_goto (tgt := 5) hx hb dJ7_fill_53178_17 (by decide) ?_
        exact hi5 x1 v3 x3 u2 ls (lv_sub hl [1, 2, 0, 3] rfl) hF _ _ hP hS
  unfold fG7_fill at hF
  refine lv_iconst (v := 0) hx hb dJ7_fill_53178_0 (by decide) ?_
  refine lv_istore_n (lv' := [(2, .int 0), (0, .ref (a 0)), (1, .int o1)]) hx hb dJ7_fill_53178_1 rfl hl (by decide) rfl (fun ls hl => ?_)
  refine lv_aload_n hx hb dJ7_fill_53178_2 rfl (lv_at hl 1 rfl) ?_
  refine ng_g_row hx hb hK hP dJ7_fill_53178_3 ?_
  refine sx_istore_n (lv2 := [(2, .int 0), (0, .ref (a 0)), (1, .int o1)]) hx hb hF dJ7_fill_53178_4 rfl hl (by decide) rfl (fun v1 hF ls hl => ?_)
  exact hB5 N o1 0 v1 u ls (lv_sub hl [2, 3, 1, 0] rfl) hF _ _ hP hS
