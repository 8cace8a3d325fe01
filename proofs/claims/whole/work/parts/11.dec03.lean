theorem dX10_mode_22 : decode cX10_mode 22 = .ok (.ifCond .eq 5, 3) := by decide +kernel
theorem dX10_mode_25 : decode cX10_mode 25 = .ok (.iload_n 3, 1) := by decide +kernel
theorem dX10_mode_26 : decode cX10_mode 26 = .ok (.ireturn, 1) := by decide +kernel
theorem dX10_mode_27 : decode cX10_mode 27 = .ok (.aload_n 0, 1) := by decide +kernel
theorem dX10_mode_28 : decode cX10_mode 28 = .ok (.getfield 71, 3) := by decide +kernel
theorem dX10_mode_31 : decode cX10_mode 31 = .ok (.iload_n 1, 1) := by decide +kernel
theorem dX10_mode_32 : decode cX10_mode 32 = .ok (.invokevirtual 173, 3) := by decide +kernel
theorem dX10_mode_35 : decode cX10_mode 35 = .ok (.iconst 4, 1) := by decide +kernel
theorem dX10_mode_36 : decode cX10_mode 36 = .ok (.if_icmp .eq 13, 3) := by decide +kernel
theorem dX10_mode_39 : decode cX10_mode 39 = .ok (.iload_n 2, 1) := by decide +kernel
theorem dX10_mode_40 : decode cX10_mode 40 = .ok (.ifCond .lt 9, 3) := by decide +kernel
theorem dX10_mode_43 : decode cX10_mode 43 = .ok (.iload_n 2, 1) := by decide +kernel
theorem dX10_mode_44 : decode cX10_mode 44 = .ok (.bipush 63, 2) := by decide +kernel
theorem dX10_mode_46 : decode cX10_mode 46 = .ok (.if_icmp .le 6, 3) := by decide +kernel
theorem dX10_mode_49 : decode cX10_mode 49 = .ok (.bipush (-15), 2) := by decide +kernel
theorem dX10_mode_51 : decode cX10_mode 51 = .ok (.ireturn, 1) := by decide +kernel
theorem dX10_mode_52 : decode cX10_mode 52 = .ok (.aload_n 0, 1) := by decide +kernel
theorem dX10_mode_53 : decode cX10_mode 53 = .ok (.getfield 113, 3) := by decide +kernel
theorem dX10_mode_56 : decode cX10_mode 56 = .ok (.ifCond .eq 21, 3) := by decide +kernel
theorem dX10_mode_59 : decode cX10_mode 59 = .ok (.aload_n 0, 1) := by decide +kernel
theorem dX10_mode_60 : decode cX10_mode 60 = .ok (.getfield 113, 3) := by decide +kernel
theorem dX10_mode_63 : decode cX10_mode 63 = .ok (.aload_n 0, 1) := by decide +kernel
theorem dX10_mode_64 : decode cX10_mode 64 = .ok (.getfield 71, 3) := by decide +kernel
theorem dX10_mode_67 : decode cX10_mode 67 = .ok (.iload_n 1, 1) := by decide +kernel
theorem dX10_mode_68 : decode cX10_mode 68 = .ok (.invokevirtual 234, 3) := by decide +kernel
theorem dX10_mode_71 : decode cX10_mode 71 = .ok (.if_icmp .eq 6, 3) := by decide +kernel
theorem dX10_mode_74 : decode cX10_mode 74 = .ok (.bipush (-20), 2) := by decide +kernel
theorem dX10_mode_76 : decode cX10_mode 76 = .ok (.ireturn, 1) := by decide +kernel
theorem dX10_mode_77 : decode cX10_mode 77 = .ok (.aload_n 0, 1) := by decide +kernel
theorem dX10_mode_78 : decode cX10_mode 78 = .ok (.getfield 71, 3) := by decide +kernel
theorem dX10_mode_81 : decode cX10_mode 81 = .ok (.iload_n 1, 1) := by decide +kernel
theorem dX10_mode_82 : decode cX10_mode 82 = .ok (.invokevirtual 237, 3) := by decide +kernel
theorem dX10_mode_85 : decode cX10_mode 85 = .ok (.istore 4, 2) := by decide +kernel
theorem dX10_mode_87 : decode cX10_mode 87 = .ok (.iload_n 2, 1) := by decide +kernel
theorem dX10_mode_88 : decode cX10_mode 88 = .ok (.iload 4, 2) := by decide +kernel
theorem dX10_mode_90 : decode cX10_mode 90 = .ok (.if_icmp .eq 12, 3) := by decide +kernel
theorem dX10_mode_93 : decode cX10_mode 93 = .ok (.aload_n 0, 1) := by decide +kernel
theorem dX10_mode_94 : decode cX10_mode 94 = .ok (.getfield 71, 3) := by decide +kernel
theorem dX10_mode_97 : decode cX10_mode 97 = .ok (.iload_n 1, 1) := by decide +kernel
theorem dX10_mode_98 : decode cX10_mode 98 = .ok (.iload_n 2, 1) := by decide +kernel
theorem dX10_mode_99 : decode cX10_mode 99 = .ok (.invokevirtual 240, 3) := by decide +kernel
theorem dX10_mode_102 : decode cX10_mode 102 = .ok (.iload 4, 2) := by decide +kernel
theorem dX10_mode_104 : decode cX10_mode 104 = .ok (.ireturn, 1) := by decide +kernel
theorem dX4_setOwner_0 : decode cX4_setOwner 0 = .ok (.aload_n 0, 1) := by decide +kernel
theorem dX4_setOwner_1 : decode cX4_setOwner 1 = .ok (.getfield 9, 3) := by decide +kernel
theorem dX4_setOwner_4 : decode cX4_setOwner 4 = .ok (.aload_n 0, 1) := by decide +kernel
theorem dX4_setOwner_5 : decode cX4_setOwner 5 = .ok (.getfield 15, 3) := by decide +kernel
theorem dX4_setOwner_8 : decode cX4_setOwner 8 = .ok (.iload_n 1, 1) := by decide +kernel
theorem dX4_setOwner_9 : decode cX4_setOwner 9 = .ok (.iadd, 1) := by decide +kernel
theorem dX4_setOwner_10 : decode cX4_setOwner 10 = .ok (.iconst 1, 1) := by decide +kernel
theorem dX4_setOwner_11 : decode cX4_setOwner 11 = .ok (.iload_n 2, 1) := by decide +kernel
theorem dX4_setOwner_12 : decode cX4_setOwner 12 = .ok (.invokevirtual 33, 3) := by decide +kernel
theorem dX4_setOwner_15 : decode cX4_setOwner 15 = .ok (.return_, 1) := by decide +kernel
theorem dX10_give_0 : decode cX10_give 0 = .ok (.aload_n 0, 1) := by decide +kernel
theorem dX10_give_1 : decode cX10_give 1 = .ok (.getfield 63, 3) := by decide +kernel
theorem dX10_give_4 : decode cX10_give 4 = .ok (.bipush 40, 2) := by decide +kernel
theorem dX10_give_6 : decode cX10_give 6 = .ok (.invokevirtual 126, 3) := by decide +kernel
theorem dX10_give_9 : decode cX10_give 9 = .ok (.ifCond .ne 6, 3) := by decide +kernel
theorem dX10_give_12 : decode cX10_give 12 = .ok (.bipush (-99), 2) := by decide +kernel
theorem dX10_give_14 : decode cX10_give 14 = .ok (.ireturn, 1) := by decide +kernel
theorem dX10_give_15 : decode cX10_give 15 = .ok (.aload_n 0, 1) := by decide +kernel
theorem dX10_give_16 : decode cX10_give 16 = .ok (.iload_n 1, 1) := by decide +kernel
theorem dX10_give_17 : decode cX10_give 17 = .ok (.invokevirtual 228, 3) := by decide +kernel
theorem dX10_give_20 : decode cX10_give 20 = .ok (.istore_n 3, 1) := by decide +kernel
theorem dX10_give_21 : decode cX10_give 21 = .ok (.iload_n 3, 1) := by decide +kernel
theorem dX10_give_22 : decode cX10_give 22 = .ok (.ifCond .eq 5, 3) := by decide +kernel
theorem dX10_give_25 : decode cX10_give 25 = .ok (.iload_n 3, 1) := by decide +kernel
theorem dX10_give_26 : decode cX10_give 26 = .ok (.ireturn, 1) := by decide +kernel
theorem dX10_give_27 : decode cX10_give 27 = .ok (.iload_n 2, 1) := by decide +kernel
theorem dX10_give_28 : decode cX10_give 28 = .ok (.ifCond .lt 9, 3) := by decide +kernel
theorem dX10_give_31 : decode cX10_give 31 = .ok (.iload_n 2, 1) := by decide +kernel
theorem dX10_give_32 : decode cX10_give 32 = .ok (.bipush 16, 2) := by decide +kernel
theorem dX10_give_34 : decode cX10_give 34 = .ok (.if_icmp .lt 6, 3) := by decide +kernel
theorem dX10_give_37 : decode cX10_give 37 = .ok (.bipush (-15), 2) := by decide +kernel
theorem dX10_give_39 : decode cX10_give 39 = .ok (.ireturn, 1) := by decide +kernel
theorem dX10_give_40 : decode cX10_give 40 = .ok (.aload_n 0, 1) := by decide +kernel
theorem dX10_give_41 : decode cX10_give 41 = .ok (.getfield 113, 3) := by decide +kernel
theorem dX10_give_44 : decode cX10_give 44 = .ok (.ifCond .eq 6, 3) := by decide +kernel
theorem dX10_give_47 : decode cX10_give 47 = .ok (.bipush (-20), 2) := by decide +kernel
theorem dX10_give_49 : decode cX10_give 49 = .ok (.ireturn, 1) := by decide +kernel
theorem dX10_give_50 : decode cX10_give 50 = .ok (.aload_n 0, 1) := by decide +kernel
theorem dX10_give_51 : decode cX10_give 51 = .ok (.getfield 71, 3) := by decide +kernel
theorem dX10_give_54 : decode cX10_give 54 = .ok (.iload_n 1, 1) := by decide +kernel
theorem dX10_give_55 : decode cX10_give 55 = .ok (.invokevirtual 234, 3) := by decide +kernel
theorem dX10_give_58 : decode cX10_give 58 = .ok (.istore 4, 2) := by decide +kernel
theorem dX10_give_60 : decode cX10_give 60 = .ok (.iload_n 2, 1) := by decide +kernel
theorem dX10_give_61 : decode cX10_give 61 = .ok (.iload 4, 2) := by decide +kernel
theorem dX10_give_63 : decode cX10_give 63 = .ok (.if_icmp .eq 12, 3) := by decide +kernel
theorem dX10_give_66 : decode cX10_give 66 = .ok (.aload_n 0, 1) := by decide +kernel
theorem dX10_give_67 : decode cX10_give 67 = .ok (.getfield 71, 3) := by decide +kernel
theorem dX10_give_70 : decode cX10_give 70 = .ok (.iload_n 1, 1) := by decide +kernel
theorem dX10_give_71 : decode cX10_give 71 = .ok (.iload_n 2, 1) := by decide +kernel
theorem dX10_give_72 : decode cX10_give 72 = .ok (.invokevirtual 243, 3) := by decide +kernel
theorem dX10_give_75 : decode cX10_give 75 = .ok (.iload 4, 2) := by decide +kernel
theorem dX10_give_77 : decode cX10_give 77 = .ok (.ireturn, 1) := by decide +kernel
theorem dX10_rights_0 : decode cX10_rights 0 = .ok (.aload_n 0, 1) := by decide +kernel
theorem dX10_rights_1 : decode cX10_rights 1 = .ok (.iload_n 1, 1) := by decide +kernel
theorem dX10_rights_2 : decode cX10_rights 2 = .ok (.invokevirtual 228, 3) := by decide +kernel
theorem dX10_rights_5 : decode cX10_rights 5 = .ok (.istore_n 3, 1) := by decide +kernel
theorem dX10_rights_6 : decode cX10_rights 6 = .ok (.iload_n 3, 1) := by decide +kernel
theorem dX10_rights_7 : decode cX10_rights 7 = .ok (.ifCond .eq 5, 3) := by decide +kernel
theorem dX10_rights_10 : decode cX10_rights 10 = .ok (.iload_n 3, 1) := by decide +kernel
theorem dX10_rights_11 : decode cX10_rights 11 = .ok (.ireturn, 1) := by decide +kernel
theorem dX10_rights_12 : decode cX10_rights 12 = .ok (.iload_n 2, 1) := by decide +kernel
theorem dX10_rights_13 : decode cX10_rights 13 = .ok (.ifCond .ne 12, 3) := by decide +kernel
theorem dX10_rights_16 : decode cX10_rights 16 = .ok (.aload_n 0, 1) := by decide +kernel
theorem dX10_rights_17 : decode cX10_rights 17 = .ok (.getfield 71, 3) := by decide +kernel
theorem dX10_rights_20 : decode cX10_rights 20 = .ok (.iload_n 1, 1) := by decide +kernel
theorem dX10_rights_21 : decode cX10_rights 21 = .ok (.invokevirtual 234, 3) := by decide +kernel
theorem dX10_rights_24 : decode cX10_rights 24 = .ok (.ireturn, 1) := by decide +kernel
theorem dX10_rights_25 : decode cX10_rights 25 = .ok (.iload_n 2, 1) := by decide +kernel
theorem dX10_rights_26 : decode cX10_rights 26 = .ok (.iconst 1, 1) := by decide +kernel
theorem dX10_rights_27 : decode cX10_rights 27 = .ok (.if_icmp .ne 26, 3) := by decide +kernel
theorem dX10_rights_30 : decode cX10_rights 30 = .ok (.aload_n 0, 1) := by decide +kernel
theorem dX10_rights_31 : decode cX10_rights 31 = .ok (.getfield 71, 3) := by decide +kernel
theorem dX10_rights_34 : decode cX10_rights 34 = .ok (.iload_n 1, 1) := by decide +kernel
theorem dX10_rights_35 : decode cX10_rights 35 = .ok (.invokevirtual 173, 3) := by decide +kernel
theorem dX10_rights_38 : decode cX10_rights 38 = .ok (.iconst 4, 1) := by decide +kernel
theorem dX10_rights_39 : decode cX10_rights 39 = .ok (.if_icmp .eq 14, 3) := by decide +kernel
theorem dX10_rights_42 : decode cX10_rights 42 = .ok (.aload_n 0, 1) := by decide +kernel
theorem dX10_rights_43 : decode cX10_rights 43 = .ok (.getfield 71, 3) := by decide +kernel
theorem dX10_rights_46 : decode cX10_rights 46 = .ok (.iload_n 1, 1) := by decide +kernel
theorem dX10_rights_47 : decode cX10_rights 47 = .ok (.invokevirtual 237, 3) := by decide +kernel
theorem dX10_rights_50 : decode cX10_rights 50 = .ok (.goto 4, 3) := by decide +kernel
theorem dX10_rights_53 : decode cX10_rights 53 = .ok (.iconst (-1), 1) := by decide +kernel
theorem dX10_rights_54 : decode cX10_rights 54 = .ok (.ireturn, 1) := by decide +kernel
theorem dX10_links_0 : decode cX10_links 0 = .ok (.aload_n 0, 1) := by decide +kernel
theorem dX10_links_1 : decode cX10_links 1 = .ok (.getfield 53, 3) := by decide +kernel
theorem dX10_links_4 : decode cX10_links 4 = .ok (.getfield 122, 3) := by decide +kernel
theorem dX10_links_7 : decode cX10_links 7 = .ok (.ifCond .ne 6, 3) := by decide +kernel
theorem dX10_links_10 : decode cX10_links 10 = .ok (.bipush (-99), 2) := by decide +kernel
theorem dX10_links_12 : decode cX10_links 12 = .ok (.ireturn, 1) := by decide +kernel
theorem dX10_links_13 : decode cX10_links 13 = .ok (.aload_n 0, 1) := by decide +kernel
theorem dX10_links_14 : decode cX10_links 14 = .ok (.getfield 71, 3) := by decide +kernel
theorem dX10_links_17 : decode cX10_links 17 = .ok (.iload_n 1, 1) := by decide +kernel
theorem dX10_links_18 : decode cX10_links 18 = .ok (.invokevirtual 148, 3) := by decide +kernel
theorem dX10_links_21 : decode cX10_links 21 = .ok (.ifCond .eq 14, 3) := by decide +kernel
theorem dX10_links_24 : decode cX10_links 24 = .ok (.aload_n 0, 1) := by decide +kernel
theorem dX10_links_25 : decode cX10_links 25 = .ok (.getfield 71, 3) := by decide +kernel
theorem dX10_links_28 : decode cX10_links 28 = .ok (.iload_n 1, 1) := by decide +kernel
theorem dX10_links_29 : decode cX10_links 29 = .ok (.invokevirtual 154, 3) := by decide +kernel
theorem dX10_links_32 : decode cX10_links 32 = .ok (.goto 5, 3) := by decide +kernel
theorem dX10_links_35 : decode cX10_links 35 = .ok (.bipush (-14), 2) := by decide +kernel
theorem dX10_links_37 : decode cX10_links 37 = .ok (.ireturn, 1) := by decide +kernel
theorem dX10_parent_0 : decode cX10_parent 0 = .ok (.aload_n 0, 1) := by decide +kernel
theorem dX10_parent_1 : decode cX10_parent 1 = .ok (.getfield 53, 3) := by decide +kernel
theorem dX10_parent_4 : decode cX10_parent 4 = .ok (.getfield 122, 3) := by decide +kernel
theorem dX10_parent_7 : decode cX10_parent 7 = .ok (.ifCond .ne 6, 3) := by decide +kernel
theorem dX10_parent_10 : decode cX10_parent 10 = .ok (.bipush (-99), 2) := by decide +kernel
theorem dX10_parent_12 : decode cX10_parent 12 = .ok (.ireturn, 1) := by decide +kernel
theorem dX10_parent_13 : decode cX10_parent 13 = .ok (.aload_n 0, 1) := by decide +kernel
theorem dX10_parent_14 : decode cX10_parent 14 = .ok (.getfield 71, 3) := by decide +kernel
theorem dX10_parent_17 : decode cX10_parent 17 = .ok (.iload_n 1, 1) := by decide +kernel
theorem dX10_parent_18 : decode cX10_parent 18 = .ok (.invokevirtual 173, 3) := by decide +kernel
theorem dX10_parent_21 : decode cX10_parent 21 = .ok (.iconst 2, 1) := by decide +kernel
theorem dX10_parent_22 : decode cX10_parent 22 = .ok (.if_icmp .ne 14, 3) := by decide +kernel
theorem dX10_parent_25 : decode cX10_parent 25 = .ok (.aload_n 0, 1) := by decide +kernel
theorem dX10_parent_26 : decode cX10_parent 26 = .ok (.getfield 71, 3) := by decide +kernel
theorem dX10_parent_29 : decode cX10_parent 29 = .ok (.iload_n 1, 1) := by decide +kernel
theorem dX10_parent_30 : decode cX10_parent 30 = .ok (.invokevirtual 246, 3) := by decide +kernel
theorem dX10_parent_33 : decode cX10_parent 33 = .ok (.goto 5, 3) := by decide +kernel
theorem dX10_parent_36 : decode cX10_parent 36 = .ok (.bipush (-10), 2) := by decide +kernel
theorem dX10_parent_38 : decode cX10_parent 38 = .ok (.ireturn, 1) := by decide +kernel
theorem dX0_blockOf_0 : decode cX0_blockOf 0 = .ok (.aload_n 0, 1) := by decide +kernel
theorem dX0_blockOf_1 : decode cX0_blockOf 1 = .ok (.getfield 19, 3) := by decide +kernel
theorem dX0_blockOf_4 : decode cX0_blockOf 4 = .ok (.iload_n 1, 1) := by decide +kernel
theorem dX0_blockOf_5 : decode cX0_blockOf 5 = .ok (.invokevirtual 27, 3) := by decide +kernel
theorem dX0_blockOf_8 : decode cX0_blockOf 8 = .ok (.istore_n 3, 1) := by decide +kernel
theorem dX0_blockOf_9 : decode cX0_blockOf 9 = .ok (.iload_n 3, 1) := by decide +kernel
theorem dX0_blockOf_10 : decode cX0_blockOf 10 = .ok (.iconst 2, 1) := by decide +kernel
theorem dX0_blockOf_11 : decode cX0_blockOf 11 = .ok (.if_icmp .ne 36, 3) := by decide +kernel
theorem dX0_blockOf_14 : decode cX0_blockOf 14 = .ok (.iload_n 2, 1) := by decide +kernel
theorem dX0_blockOf_15 : decode cX0_blockOf 15 = .ok (.ifCond .lt 9, 3) := by decide +kernel
theorem dX0_blockOf_18 : decode cX0_blockOf 18 = .ok (.iload_n 2, 1) := by decide +kernel
theorem dX0_blockOf_19 : decode cX0_blockOf 19 = .ok (.bipush 12, 2) := by decide +kernel
theorem dX0_blockOf_21 : decode cX0_blockOf 21 = .ok (.if_icmp .lt 7, 3) := by decide +kernel
theorem dX0_blockOf_24 : decode cX0_blockOf 24 = .ok (.iconst 0, 1) := by decide +kernel
theorem dX0_blockOf_25 : decode cX0_blockOf 25 = .ok (.goto 21, 3) := by decide +kernel
theorem dX0_blockOf_28 : decode cX0_blockOf 28 = .ok (.aload_n 0, 1) := by decide +kernel
theorem dX0_blockOf_29 : decode cX0_blockOf 29 = .ok (.getfield 11, 3) := by decide +kernel
theorem dX0_blockOf_32 : decode cX0_blockOf 32 = .ok (.aload_n 0, 1) := by decide +kernel
theorem dX0_blockOf_33 : decode cX0_blockOf 33 = .ok (.getfield 19, 3) := by decide +kernel
theorem dX0_blockOf_36 : decode cX0_blockOf 36 = .ok (.iload_n 1, 1) := by decide +kernel
theorem dX0_blockOf_37 : decode cX0_blockOf 37 = .ok (.invokevirtual 36, 3) := by decide +kernel
theorem dX0_blockOf_40 : decode cX0_blockOf 40 = .ok (.iconst 4, 1) := by decide +kernel
theorem dX0_blockOf_41 : decode cX0_blockOf 41 = .ok (.iload_n 2, 1) := by decide +kernel
theorem dX0_blockOf_42 : decode cX0_blockOf 42 = .ok (.iadd, 1) := by decide +kernel
theorem dX0_blockOf_43 : decode cX0_blockOf 43 = .ok (.invokevirtual 54, 3) := by decide +kernel
theorem dX0_blockOf_46 : decode cX0_blockOf 46 = .ok (.ireturn, 1) := by decide +kernel
theorem dX0_blockOf_47 : decode cX0_blockOf 47 = .ok (.iload_n 3, 1) := by decide +kernel
theorem dX0_blockOf_48 : decode cX0_blockOf 48 = .ok (.iconst 3, 1) := by decide +kernel
theorem dX0_blockOf_49 : decode cX0_blockOf 49 = .ok (.if_icmp .ne 10, 3) := by decide +kernel
theorem dX0_blockOf_52 : decode cX0_blockOf 52 = .ok (.aload_n 0, 1) := by decide +kernel
theorem dX0_blockOf_53 : decode cX0_blockOf 53 = .ok (.iload_n 1, 1) := by decide +kernel
theorem dX0_blockOf_54 : decode cX0_blockOf 54 = .ok (.iload_n 2, 1) := by decide +kernel
theorem dX0_blockOf_55 : decode cX0_blockOf 55 = .ok (.invokevirtual 45, 3) := by decide +kernel
theorem dX0_blockOf_58 : decode cX0_blockOf 58 = .ok (.ireturn, 1) := by decide +kernel
theorem dX0_blockOf_59 : decode cX0_blockOf 59 = .ok (.iload_n 3, 1) := by decide +kernel
theorem dX0_blockOf_60 : decode cX0_blockOf 60 = .ok (.iconst 1, 1) := by decide +kernel
theorem dX0_blockOf_61 : decode cX0_blockOf 61 = .ok (.if_icmp .eq 5, 3) := by decide +kernel
theorem dX0_blockOf_64 : decode cX0_blockOf 64 = .ok (.iconst 0, 1) := by decide +kernel
theorem dX0_blockOf_65 : decode cX0_blockOf 65 = .ok (.ireturn, 1) := by decide +kernel
theorem dX0_blockOf_66 : decode cX0_blockOf 66 = .ok (.iload_n 2, 1) := by decide +kernel
theorem dX0_blockOf_67 : decode cX0_blockOf 67 = .ok (.iconst (-1), 1) := by decide +kernel
theorem dX0_blockOf_68 : decode cX0_blockOf 68 = .ok (.if_icmp .ne 21, 3) := by decide +kernel
theorem dX0_blockOf_71 : decode cX0_blockOf 71 = .ok (.aload_n 0, 1) := by decide +kernel
theorem dX0_blockOf_72 : decode cX0_blockOf 72 = .ok (.getfield 11, 3) := by decide +kernel
theorem dX0_blockOf_75 : decode cX0_blockOf 75 = .ok (.aload_n 0, 1) := by decide +kernel
theorem dX0_blockOf_76 : decode cX0_blockOf 76 = .ok (.getfield 19, 3) := by decide +kernel
theorem dX0_blockOf_79 : decode cX0_blockOf 79 = .ok (.iload_n 1, 1) := by decide +kernel
theorem dX0_blockOf_80 : decode cX0_blockOf 80 = .ok (.invokevirtual 36, 3) := by decide +kernel
theorem dX0_blockOf_83 : decode cX0_blockOf 83 = .ok (.bipush 16, 2) := by decide +kernel
theorem dX0_blockOf_85 : decode cX0_blockOf 85 = .ok (.invokevirtual 54, 3) := by decide +kernel
theorem dX0_blockOf_88 : decode cX0_blockOf 88 = .ok (.ireturn, 1) := by decide +kernel
theorem dX0_blockOf_89 : decode cX0_blockOf 89 = .ok (.iload_n 2, 1) := by decide +kernel
theorem dX0_blockOf_90 : decode cX0_blockOf 90 = .ok (.bipush (-2), 2) := by decide +kernel
theorem dX0_blockOf_92 : decode cX0_blockOf 92 = .ok (.if_icmp .ne 21, 3) := by decide +kernel
theorem dX0_blockOf_95 : decode cX0_blockOf 95 = .ok (.aload_n 0, 1) := by decide +kernel
theorem dX0_blockOf_96 : decode cX0_blockOf 96 = .ok (.getfield 11, 3) := by decide +kernel
theorem dX0_blockOf_99 : decode cX0_blockOf 99 = .ok (.aload_n 0, 1) := by decide +kernel
theorem dX0_blockOf_100 : decode cX0_blockOf 100 = .ok (.getfield 19, 3) := by decide +kernel
theorem dX0_blockOf_103 : decode cX0_blockOf 103 = .ok (.iload_n 1, 1) := by decide +kernel
theorem dX0_blockOf_104 : decode cX0_blockOf 104 = .ok (.invokevirtual 36, 3) := by decide +kernel
theorem dX0_blockOf_107 : decode cX0_blockOf 107 = .ok (.bipush 17, 2) := by decide +kernel
theorem dX0_blockOf_109 : decode cX0_blockOf 109 = .ok (.invokevirtual 54, 3) := by decide +kernel
theorem dX0_blockOf_112 : decode cX0_blockOf 112 = .ok (.ireturn, 1) := by decide +kernel
theorem dX0_blockOf_113 : decode cX0_blockOf 113 = .ok (.iload_n 2, 1) := by decide +kernel
theorem dX0_blockOf_114 : decode cX0_blockOf 114 = .ok (.ifCond .ge 15, 3) := by decide +kernel
theorem dX0_blockOf_117 : decode cX0_blockOf 117 = .ok (.aload_n 0, 1) := by decide +kernel
theorem dX0_blockOf_118 : decode cX0_blockOf 118 = .ok (.iload_n 1, 1) := by decide +kernel
theorem dX0_blockOf_119 : decode cX0_blockOf 119 = .ok (.bipush (-3), 2) := by decide +kernel
theorem dX0_blockOf_121 : decode cX0_blockOf 121 = .ok (.iload_n 2, 1) := by decide +kernel
theorem dX0_blockOf_122 : decode cX0_blockOf 122 = .ok (.isub, 1) := by decide +kernel
theorem dX0_blockOf_123 : decode cX0_blockOf 123 = .ok (.invokevirtual 57, 3) := by decide +kernel
theorem dX0_blockOf_126 : decode cX0_blockOf 126 = .ok (.goto 9, 3) := by decide +kernel
theorem dX0_blockOf_129 : decode cX0_blockOf 129 = .ok (.aload_n 0, 1) := by decide +kernel
theorem dX0_blockOf_130 : decode cX0_blockOf 130 = .ok (.iload_n 1, 1) := by decide +kernel
theorem dX0_blockOf_131 : decode cX0_blockOf 131 = .ok (.iload_n 2, 1) := by decide +kernel
theorem dX0_blockOf_132 : decode cX0_blockOf 132 = .ok (.invokevirtual 48, 3) := by decide +kernel
theorem dX0_blockOf_135 : decode cX0_blockOf 135 = .ok (.ireturn, 1) := by decide +kernel
theorem dX10_block_0 : decode cX10_block 0 = .ok (.aload_n 0, 1) := by decide +kernel
theorem dX10_block_1 : decode cX10_block 1 = .ok (.getfield 53, 3) := by decide +kernel
theorem dX10_block_4 : decode cX10_block 4 = .ok (.getfield 122, 3) := by decide +kernel
theorem dX10_block_7 : decode cX10_block 7 = .ok (.ifCond .ne 6, 3) := by decide +kernel
theorem dX10_block_10 : decode cX10_block 10 = .ok (.bipush (-99), 2) := by decide +kernel
theorem dX10_block_12 : decode cX10_block 12 = .ok (.ireturn, 1) := by decide +kernel
theorem dX10_block_13 : decode cX10_block 13 = .ok (.aload_n 0, 1) := by decide +kernel
theorem dX10_block_14 : decode cX10_block 14 = .ok (.getfield 91, 3) := by decide +kernel
theorem dX10_block_17 : decode cX10_block 17 = .ok (.iload_n 1, 1) := by decide +kernel
theorem dX10_block_18 : decode cX10_block 18 = .ok (.iload_n 2, 1) := by decide +kernel
theorem dX10_block_19 : decode cX10_block 19 = .ok (.invokevirtual 249, 3) := by decide +kernel
theorem dX10_block_22 : decode cX10_block 22 = .ok (.istore_n 3, 1) := by decide +kernel
theorem dX10_block_23 : decode cX10_block 23 = .ok (.iload_n 3, 1) := by decide +kernel
theorem dX10_block_24 : decode cX10_block 24 = .ok (.ifCond .ne 7, 3) := by decide +kernel
theorem dX10_block_27 : decode cX10_block 27 = .ok (.iconst (-1), 1) := by decide +kernel
theorem dX10_block_28 : decode cX10_block 28 = .ok (.goto 4, 3) := by decide +kernel
theorem dX10_block_31 : decode cX10_block 31 = .ok (.iload_n 3, 1) := by decide +kernel
theorem dX10_block_32 : decode cX10_block 32 = .ok (.ireturn, 1) := by decide +kernel
theorem dX0_byteOf_0 : decode cX0_byteOf 0 = .ok (.aload_n 0, 1) := by decide +kernel
theorem dX0_byteOf_1 : decode cX0_byteOf 1 = .ok (.getfield 19, 3) := by decide +kernel
theorem dX0_byteOf_4 : decode cX0_byteOf 4 = .ok (.iload_n 1, 1) := by decide +kernel
theorem dX0_byteOf_5 : decode cX0_byteOf 5 = .ok (.invokevirtual 27, 3) := by decide +kernel
theorem dX0_byteOf_8 : decode cX0_byteOf 8 = .ok (.istore_n 3, 1) := by decide +kernel
theorem dX0_byteOf_9 : decode cX0_byteOf 9 = .ok (.iload_n 3, 1) := by decide +kernel
theorem dX0_byteOf_10 : decode cX0_byteOf 10 = .ok (.iconst 4, 1) := by decide +kernel
theorem dX0_byteOf_11 : decode cX0_byteOf 11 = .ok (.if_icmp .ne 23, 3) := by decide +kernel
theorem dX0_byteOf_14 : decode cX0_byteOf 14 = .ok (.aload_n 0, 1) := by decide +kernel
theorem dX0_byteOf_15 : decode cX0_byteOf 15 = .ok (.getfield 11, 3) := by decide +kernel
theorem dX0_byteOf_18 : decode cX0_byteOf 18 = .ok (.aload_n 0, 1) := by decide +kernel
theorem dX0_byteOf_19 : decode cX0_byteOf 19 = .ok (.getfield 19, 3) := by decide +kernel
theorem dX0_byteOf_22 : decode cX0_byteOf 22 = .ok (.iload_n 1, 1) := by decide +kernel
theorem dX0_byteOf_23 : decode cX0_byteOf 23 = .ok (.invokevirtual 36, 3) := by decide +kernel
theorem dX0_byteOf_26 : decode cX0_byteOf 26 = .ok (.bipush 24, 2) := by decide +kernel
theorem dX0_byteOf_28 : decode cX0_byteOf 28 = .ok (.iload_n 2, 1) := by decide +kernel
theorem dX0_byteOf_29 : decode cX0_byteOf 29 = .ok (.iadd, 1) := by decide +kernel
theorem dX0_byteOf_30 : decode cX0_byteOf 30 = .ok (.invokevirtual 39, 3) := by decide +kernel
theorem dX0_byteOf_33 : decode cX0_byteOf 33 = .ok (.ireturn, 1) := by decide +kernel
theorem dX0_byteOf_34 : decode cX0_byteOf 34 = .ok (.iload_n 3, 1) := by decide +kernel
theorem dX0_byteOf_35 : decode cX0_byteOf 35 = .ok (.iconst 3, 1) := by decide +kernel
theorem dX0_byteOf_36 : decode cX0_byteOf 36 = .ok (.if_icmp .ne 15, 3) := by decide +kernel
theorem dX0_byteOf_39 : decode cX0_byteOf 39 = .ok (.aload_n 0, 1) := by decide +kernel
theorem dX0_byteOf_40 : decode cX0_byteOf 40 = .ok (.iload_n 1, 1) := by decide +kernel
theorem dX0_byteOf_41 : decode cX0_byteOf 41 = .ok (.iload_n 2, 1) := by decide +kernel
theorem dX0_byteOf_42 : decode cX0_byteOf 42 = .ok (.bipush 64, 2) := by decide +kernel
theorem dX0_byteOf_44 : decode cX0_byteOf 44 = .ok (.idiv, 1) := by decide +kernel
theorem dX0_byteOf_45 : decode cX0_byteOf 45 = .ok (.invokevirtual 45, 3) := by decide +kernel
theorem dX0_byteOf_48 : decode cX0_byteOf 48 = .ok (.goto 12, 3) := by decide +kernel
theorem dX0_byteOf_51 : decode cX0_byteOf 51 = .ok (.aload_n 0, 1) := by decide +kernel
theorem dX0_byteOf_52 : decode cX0_byteOf 52 = .ok (.iload_n 1, 1) := by decide +kernel
theorem dX0_byteOf_53 : decode cX0_byteOf 53 = .ok (.iload_n 2, 1) := by decide +kernel
theorem dX0_byteOf_54 : decode cX0_byteOf 54 = .ok (.bipush 64, 2) := by decide +kernel
theorem dX0_byteOf_56 : decode cX0_byteOf 56 = .ok (.idiv, 1) := by decide +kernel
theorem dX0_byteOf_57 : decode cX0_byteOf 57 = .ok (.invokevirtual 48, 3) := by decide +kernel
theorem dX0_byteOf_60 : decode cX0_byteOf 60 = .ok (.istore 4, 2) := by decide +kernel
theorem dX0_byteOf_62 : decode cX0_byteOf 62 = .ok (.iload 4, 2) := by decide +kernel
theorem dX0_byteOf_64 : decode cX0_byteOf 64 = .ok (.ifCond .ne 7, 3) := by decide +kernel
theorem dX0_byteOf_67 : decode cX0_byteOf 67 = .ok (.iconst 0, 1) := by decide +kernel
theorem dX0_byteOf_68 : decode cX0_byteOf 68 = .ok (.goto 16, 3) := by decide +kernel
theorem dX0_byteOf_71 : decode cX0_byteOf 71 = .ok (.aload_n 0, 1) := by decide +kernel
theorem dX0_byteOf_72 : decode cX0_byteOf 72 = .ok (.getfield 11, 3) := by decide +kernel
theorem dX0_byteOf_75 : decode cX0_byteOf 75 = .ok (.iload 4, 2) := by decide +kernel
theorem dX0_byteOf_77 : decode cX0_byteOf 77 = .ok (.iload_n 2, 1) := by decide +kernel
theorem dX0_byteOf_78 : decode cX0_byteOf 78 = .ok (.bipush 64, 2) := by decide +kernel
theorem dX0_byteOf_80 : decode cX0_byteOf 80 = .ok (.irem, 1) := by decide +kernel
theorem dX0_byteOf_81 : decode cX0_byteOf 81 = .ok (.invokevirtual 39, 3) := by decide +kernel
theorem dX0_byteOf_84 : decode cX0_byteOf 84 = .ok (.ireturn, 1) := by decide +kernel
theorem dX10_byteAt_0 : decode cX10_byteAt 0 = .ok (.aload_n 0, 1) := by decide +kernel
theorem dX10_byteAt_1 : decode cX10_byteAt 1 = .ok (.getfield 53, 3) := by decide +kernel
theorem dX10_byteAt_4 : decode cX10_byteAt 4 = .ok (.getfield 122, 3) := by decide +kernel
theorem dX10_byteAt_7 : decode cX10_byteAt 7 = .ok (.ifCond .ne 6, 3) := by decide +kernel
theorem dX10_byteAt_10 : decode cX10_byteAt 10 = .ok (.bipush (-99), 2) := by decide +kernel
theorem dX10_byteAt_12 : decode cX10_byteAt 12 = .ok (.ireturn, 1) := by decide +kernel
theorem dX10_byteAt_13 : decode cX10_byteAt 13 = .ok (.aload_n 0, 1) := by decide +kernel
theorem dX10_byteAt_14 : decode cX10_byteAt 14 = .ok (.getfield 71, 3) := by decide +kernel
theorem dX10_byteAt_17 : decode cX10_byteAt 17 = .ok (.iload_n 1, 1) := by decide +kernel
theorem dX10_byteAt_18 : decode cX10_byteAt 18 = .ok (.invokevirtual 173, 3) := by decide +kernel
theorem dX10_byteAt_21 : decode cX10_byteAt 21 = .ok (.istore_n 3, 1) := by decide +kernel
theorem dX10_byteAt_22 : decode cX10_byteAt 22 = .ok (.iload_n 3, 1) := by decide +kernel
theorem dX10_byteAt_23 : decode cX10_byteAt 23 = .ok (.iconst 1, 1) := by decide +kernel
theorem dX10_byteAt_24 : decode cX10_byteAt 24 = .ok (.if_icmp .eq 16, 3) := by decide +kernel
theorem dX10_byteAt_27 : decode cX10_byteAt 27 = .ok (.iload_n 3, 1) := by decide +kernel
theorem dX10_byteAt_28 : decode cX10_byteAt 28 = .ok (.iconst 3, 1) := by decide +kernel
theorem dX10_byteAt_29 : decode cX10_byteAt 29 = .ok (.if_icmp .eq 11, 3) := by decide +kernel
theorem dX10_byteAt_32 : decode cX10_byteAt 32 = .ok (.iload_n 3, 1) := by decide +kernel
theorem dX10_byteAt_33 : decode cX10_byteAt 33 = .ok (.iconst 4, 1) := by decide +kernel
theorem dX10_byteAt_34 : decode cX10_byteAt 34 = .ok (.if_icmp .eq 6, 3) := by decide +kernel
theorem dX10_byteAt_37 : decode cX10_byteAt 37 = .ok (.bipush (-14), 2) := by decide +kernel
theorem dX10_byteAt_39 : decode cX10_byteAt 39 = .ok (.ireturn, 1) := by decide +kernel
theorem dX10_byteAt_40 : decode cX10_byteAt 40 = .ok (.iload_n 3, 1) := by decide +kernel
theorem dX10_byteAt_41 : decode cX10_byteAt 41 = .ok (.iconst 4, 1) := by decide +kernel
theorem dX10_byteAt_42 : decode cX10_byteAt 42 = .ok (.if_icmp .eq 22, 3) := by decide +kernel
theorem dX10_byteAt_45 : decode cX10_byteAt 45 = .ok (.aload_n 0, 1) := by decide +kernel
theorem dX10_byteAt_46 : decode cX10_byteAt 46 = .ok (.getfield 71, 3) := by decide +kernel
theorem dX10_byteAt_49 : decode cX10_byteAt 49 = .ok (.iload_n 1, 1) := by decide +kernel
theorem dX10_byteAt_50 : decode cX10_byteAt 50 = .ok (.iconst 4, 1) := by decide +kernel
theorem dX10_byteAt_51 : decode cX10_byteAt 51 = .ok (.aload_n 0, 1) := by decide +kernel
theorem dX10_byteAt_52 : decode cX10_byteAt 52 = .ok (.getfield 113, 3) := by decide +kernel
theorem dX10_byteAt_55 : decode cX10_byteAt 55 = .ok (.invokevirtual 176, 3) := by decide +kernel
theorem dX10_byteAt_58 : decode cX10_byteAt 58 = .ok (.ifCond .ne 6, 3) := by decide +kernel
theorem dX10_byteAt_61 : decode cX10_byteAt 61 = .ok (.bipush (-20), 2) := by decide +kernel
theorem dX10_byteAt_63 : decode cX10_byteAt 63 = .ok (.ireturn, 1) := by decide +kernel
theorem dX10_byteAt_64 : decode cX10_byteAt 64 = .ok (.iload_n 2, 1) := by decide +kernel
theorem dX10_byteAt_65 : decode cX10_byteAt 65 = .ok (.ifCond .lt 15, 3) := by decide +kernel
theorem dX10_byteAt_68 : decode cX10_byteAt 68 = .ok (.iload_n 2, 1) := by decide +kernel
theorem dX10_byteAt_69 : decode cX10_byteAt 69 = .ok (.aload_n 0, 1) := by decide +kernel
theorem dX10_byteAt_70 : decode cX10_byteAt 70 = .ok (.getfield 91, 3) := by decide +kernel
theorem dX10_byteAt_73 : decode cX10_byteAt 73 = .ok (.iload_n 1, 1) := by decide +kernel
theorem dX10_byteAt_74 : decode cX10_byteAt 74 = .ok (.invokevirtual 231, 3) := by decide +kernel
theorem dX10_byteAt_77 : decode cX10_byteAt 77 = .ok (.if_icmp .lt 7, 3) := by decide +kernel
theorem dX10_byteAt_80 : decode cX10_byteAt 80 = .ok (.iconst (-1), 1) := by decide +kernel
theorem dX10_byteAt_81 : decode cX10_byteAt 81 = .ok (.goto 12, 3) := by decide +kernel
theorem dX10_byteAt_84 : decode cX10_byteAt 84 = .ok (.aload_n 0, 1) := by decide +kernel
theorem dX10_byteAt_85 : decode cX10_byteAt 85 = .ok (.getfield 91, 3) := by decide +kernel
theorem dX10_byteAt_88 : decode cX10_byteAt 88 = .ok (.iload_n 1, 1) := by decide +kernel
theorem dX10_byteAt_89 : decode cX10_byteAt 89 = .ok (.iload_n 2, 1) := by decide +kernel
theorem dX10_byteAt_90 : decode cX10_byteAt 90 = .ok (.invokevirtual 252, 3) := by decide +kernel
theorem dX10_byteAt_93 : decode cX10_byteAt 93 = .ok (.ireturn, 1) := by decide +kernel
theorem dX1_expect_0 : decode cX1_expect 0 = .ok (.iload_n 1, 1) := by decide +kernel
theorem dX1_expect_1 : decode cX1_expect 1 = .ok (.ifCond .ne 13, 3) := by decide +kernel
theorem dX1_expect_4 : decode cX1_expect 4 = .ok (.aload_n 0, 1) := by decide +kernel
theorem dX1_expect_5 : decode cX1_expect 5 = .ok (.dup, 1) := by decide +kernel
theorem dX1_expect_6 : decode cX1_expect 6 = .ok (.getfield 43, 3) := by decide +kernel
theorem dX1_expect_9 : decode cX1_expect 9 = .ok (.iconst 1, 1) := by decide +kernel
theorem dX1_expect_10 : decode cX1_expect 10 = .ok (.iadd, 1) := by decide +kernel
theorem dX1_expect_11 : decode cX1_expect 11 = .ok (.putfield 43, 3) := by decide +kernel
theorem dX1_expect_14 : decode cX1_expect 14 = .ok (.return_, 1) := by decide +kernel
theorem dX1_isHeldRight_0 : decode cX1_isHeldRight 0 = .ok (.iload_n 1, 1) := by decide +kernel
theorem dX1_isHeldRight_1 : decode cX1_isHeldRight 1 = .ok (.ifCond .lt 21, 3) := by decide +kernel
theorem dX1_isHeldRight_4 : decode cX1_isHeldRight 4 = .ok (.iload_n 1, 1) := by decide +kernel
theorem dX1_isHeldRight_5 : decode cX1_isHeldRight 5 = .ok (.aload_n 0, 1) := by decide +kernel
theorem dX1_isHeldRight_6 : decode cX1_isHeldRight 6 = .ok (.getfield 37, 3) := by decide +kernel
theorem dX1_isHeldRight_9 : decode cX1_isHeldRight 9 = .ok (.arraylength, 1) := by decide +kernel
theorem dX1_isHeldRight_10 : decode cX1_isHeldRight 10 = .ok (.if_icmp .ge 12, 3) := by decide +kernel
theorem dX1_isHeldRight_13 : decode cX1_isHeldRight 13 = .ok (.iload_n 1, 1) := by decide +kernel
theorem dX1_isHeldRight_14 : decode cX1_isHeldRight 14 = .ok (.aload_n 0, 1) := by decide +kernel
theorem dX1_isHeldRight_15 : decode cX1_isHeldRight 15 = .ok (.getfield 40, 3) := by decide +kernel
theorem dX1_isHeldRight_18 : decode cX1_isHeldRight 18 = .ok (.arraylength, 1) := by decide +kernel
theorem dX1_isHeldRight_19 : decode cX1_isHeldRight 19 = .ok (.if_icmp .lt 5, 3) := by decide +kernel
theorem dX1_isHeldRight_22 : decode cX1_isHeldRight 22 = .ok (.iconst 0, 1) := by decide +kernel
theorem dX1_isHeldRight_23 : decode cX1_isHeldRight 23 = .ok (.ireturn, 1) := by decide +kernel
theorem dX1_isHeldRight_24 : decode cX1_isHeldRight 24 = .ok (.aload_n 0, 1) := by decide +kernel
theorem dX1_isHeldRight_25 : decode cX1_isHeldRight 25 = .ok (.getfield 23, 3) := by decide +kernel
theorem dX1_isHeldRight_28 : decode cX1_isHeldRight 28 = .ok (.iload_n 1, 1) := by decide +kernel
theorem dX1_isHeldRight_29 : decode cX1_isHeldRight 29 = .ok (.invokevirtual 52, 3) := by decide +kernel
theorem dX1_isHeldRight_32 : decode cX1_isHeldRight 32 = .ok (.tableswitch 142 0 4 #[36, 142, 51, 142, 126], 36) := by decide +kernel
theorem dX1_isHeldRight_68 : decode cX1_isHeldRight 68 = .ok (.aload_n 0, 1) := by decide +kernel
theorem dX1_isHeldRight_69 : decode cX1_isHeldRight 69 = .ok (.getfield 37, 3) := by decide +kernel
theorem dX1_isHeldRight_72 : decode cX1_isHeldRight 72 = .ok (.iload_n 1, 1) := by decide +kernel
theorem dX1_isHeldRight_73 : decode cX1_isHeldRight 73 = .ok (.iaload, 1) := by decide +kernel
theorem dX1_isHeldRight_74 : decode cX1_isHeldRight 74 = .ok (.ifCond .ne 7, 3) := by decide +kernel
theorem dX1_isHeldRight_77 : decode cX1_isHeldRight 77 = .ok (.iconst 1, 1) := by decide +kernel
theorem dX1_isHeldRight_78 : decode cX1_isHeldRight 78 = .ok (.goto 4, 3) := by decide +kernel
theorem dX1_isHeldRight_81 : decode cX1_isHeldRight 81 = .ok (.iconst 0, 1) := by decide +kernel
theorem dX1_isHeldRight_82 : decode cX1_isHeldRight 82 = .ok (.ireturn, 1) := by decide +kernel
theorem dX1_isHeldRight_83 : decode cX1_isHeldRight 83 = .ok (.iload_n 1, 1) := by decide +kernel
theorem dX1_isHeldRight_84 : decode cX1_isHeldRight 84 = .ok (.ifCond .ne 29, 3) := by decide +kernel
theorem dX1_isHeldRight_87 : decode cX1_isHeldRight 87 = .ok (.aload_n 0, 1) := by decide +kernel
theorem dX1_isHeldRight_88 : decode cX1_isHeldRight 88 = .ok (.getfield 37, 3) := by decide +kernel
theorem dX1_isHeldRight_91 : decode cX1_isHeldRight 91 = .ok (.iload_n 1, 1) := by decide +kernel
theorem dX1_isHeldRight_92 : decode cX1_isHeldRight 92 = .ok (.iaload, 1) := by decide +kernel
theorem dX1_isHeldRight_93 : decode cX1_isHeldRight 93 = .ok (.ifCond .ne 18, 3) := by decide +kernel
theorem dX1_isHeldRight_96 : decode cX1_isHeldRight 96 = .ok (.aload_n 0, 1) := by decide +kernel
theorem dX1_isHeldRight_97 : decode cX1_isHeldRight 97 = .ok (.getfield 23, 3) := by decide +kernel
theorem dX1_isHeldRight_100 : decode cX1_isHeldRight 100 = .ok (.iload_n 1, 1) := by decide +kernel
theorem dX1_isHeldRight_101 : decode cX1_isHeldRight 101 = .ok (.invokevirtual 109, 3) := by decide +kernel
theorem dX1_isHeldRight_104 : decode cX1_isHeldRight 104 = .ok (.ifCond .ne 7, 3) := by decide +kernel
theorem dX1_isHeldRight_107 : decode cX1_isHeldRight 107 = .ok (.iconst 1, 1) := by decide +kernel
theorem dX1_isHeldRight_108 : decode cX1_isHeldRight 108 = .ok (.goto 4, 3) := by decide +kernel
theorem dX1_isHeldRight_111 : decode cX1_isHeldRight 111 = .ok (.iconst 0, 1) := by decide +kernel
theorem dX1_isHeldRight_112 : decode cX1_isHeldRight 112 = .ok (.ireturn, 1) := by decide +kernel
theorem dX1_isHeldRight_113 : decode cX1_isHeldRight 113 = .ok (.aload_n 0, 1) := by decide +kernel
theorem dX1_isHeldRight_114 : decode cX1_isHeldRight 114 = .ok (.getfield 37, 3) := by decide +kernel
theorem dX1_isHeldRight_117 : decode cX1_isHeldRight 117 = .ok (.iload_n 1, 1) := by decide +kernel
theorem dX1_isHeldRight_118 : decode cX1_isHeldRight 118 = .ok (.iaload, 1) := by decide +kernel
theorem dX1_isHeldRight_119 : decode cX1_isHeldRight 119 = .ok (.iconst 1, 1) := by decide +kernel
theorem dX1_isHeldRight_120 : decode cX1_isHeldRight 120 = .ok (.if_icmp .ne 36, 3) := by decide +kernel
theorem dX1_isHeldRight_123 : decode cX1_isHeldRight 123 = .ok (.aload_n 0, 1) := by decide +kernel
theorem dX1_isHeldRight_124 : decode cX1_isHeldRight 124 = .ok (.getfield 23, 3) := by decide +kernel
theorem dX1_isHeldRight_127 : decode cX1_isHeldRight 127 = .ok (.iload_n 1, 1) := by decide +kernel
theorem dX1_isHeldRight_128 : decode cX1_isHeldRight 128 = .ok (.invokevirtual 109, 3) := by decide +kernel
theorem dX1_isHeldRight_131 : decode cX1_isHeldRight 131 = .ok (.aload_n 0, 1) := by decide +kernel
theorem dX1_isHeldRight_132 : decode cX1_isHeldRight 132 = .ok (.getfield 40, 3) := by decide +kernel
theorem dX1_isHeldRight_135 : decode cX1_isHeldRight 135 = .ok (.iload_n 1, 1) := by decide +kernel
theorem dX1_isHeldRight_136 : decode cX1_isHeldRight 136 = .ok (.iaload, 1) := by decide +kernel
theorem dX1_isHeldRight_137 : decode cX1_isHeldRight 137 = .ok (.if_icmp .ne 19, 3) := by decide +kernel
theorem dX1_isHeldRight_140 : decode cX1_isHeldRight 140 = .ok (.aload_n 0, 1) := by decide +kernel
theorem dX1_isHeldRight_141 : decode cX1_isHeldRight 141 = .ok (.getfield 23, 3) := by decide +kernel
theorem dX1_isHeldRight_144 : decode cX1_isHeldRight 144 = .ok (.iload_n 1, 1) := by decide +kernel
theorem dX1_isHeldRight_145 : decode cX1_isHeldRight 145 = .ok (.iconst 0, 1) := by decide +kernel
theorem dX1_isHeldRight_146 : decode cX1_isHeldRight 146 = .ok (.invokevirtual 124, 3) := by decide +kernel
theorem dX1_isHeldRight_149 : decode cX1_isHeldRight 149 = .ok (.ifCond .eq 7, 3) := by decide +kernel
theorem dX1_isHeldRight_152 : decode cX1_isHeldRight 152 = .ok (.iconst 1, 1) := by decide +kernel
theorem dX1_isHeldRight_153 : decode cX1_isHeldRight 153 = .ok (.goto 4, 3) := by decide +kernel
theorem dX1_isHeldRight_156 : decode cX1_isHeldRight 156 = .ok (.iconst 0, 1) := by decide +kernel
theorem dX1_isHeldRight_157 : decode cX1_isHeldRight 157 = .ok (.ireturn, 1) := by decide +kernel
theorem dX1_isHeldRight_158 : decode cX1_isHeldRight 158 = .ok (.aload_n 0, 1) := by decide +kernel
theorem dX1_isHeldRight_159 : decode cX1_isHeldRight 159 = .ok (.getfield 37, 3) := by decide +kernel
theorem dX1_isHeldRight_162 : decode cX1_isHeldRight 162 = .ok (.iload_n 1, 1) := by decide +kernel
theorem dX1_isHeldRight_163 : decode cX1_isHeldRight 163 = .ok (.iaload, 1) := by decide +kernel
theorem dX1_isHeldRight_164 : decode cX1_isHeldRight 164 = .ok (.iconst 1, 1) := by decide +kernel
theorem dX1_isHeldRight_165 : decode cX1_isHeldRight 165 = .ok (.if_icmp .ne 7, 3) := by decide +kernel
theorem dX1_isHeldRight_168 : decode cX1_isHeldRight 168 = .ok (.iconst 1, 1) := by decide +kernel
theorem dX1_isHeldRight_169 : decode cX1_isHeldRight 169 = .ok (.goto 4, 3) := by decide +kernel
theorem dX1_isHeldRight_172 : decode cX1_isHeldRight 172 = .ok (.iconst 0, 1) := by decide +kernel
theorem dX1_isHeldRight_173 : decode cX1_isHeldRight 173 = .ok (.ireturn, 1) := by decide +kernel
theorem dX1_isHeldRight_174 : decode cX1_isHeldRight 174 = .ok (.aload_n 0, 1) := by decide +kernel
theorem dX1_isHeldRight_175 : decode cX1_isHeldRight 175 = .ok (.getfield 37, 3) := by decide +kernel
theorem dX1_isHeldRight_178 : decode cX1_isHeldRight 178 = .ok (.iload_n 1, 1) := by decide +kernel
theorem dX1_isHeldRight_179 : decode cX1_isHeldRight 179 = .ok (.iaload, 1) := by decide +kernel
theorem dX1_isHeldRight_180 : decode cX1_isHeldRight 180 = .ok (.ifCond .le 24, 3) := by decide +kernel
theorem dX1_isHeldRight_183 : decode cX1_isHeldRight 183 = .ok (.aload_n 0, 1) := by decide +kernel
theorem dX1_isHeldRight_184 : decode cX1_isHeldRight 184 = .ok (.getfield 37, 3) := by decide +kernel
theorem dX1_isHeldRight_187 : decode cX1_isHeldRight 187 = .ok (.iload_n 1, 1) := by decide +kernel
theorem dX1_isHeldRight_188 : decode cX1_isHeldRight 188 = .ok (.iaload, 1) := by decide +kernel
theorem dX1_isHeldRight_189 : decode cX1_isHeldRight 189 = .ok (.aload_n 0, 1) := by decide +kernel
theorem dX1_isHeldRight_190 : decode cX1_isHeldRight 190 = .ok (.getfield 23, 3) := by decide +kernel
theorem dX1_isHeldRight_193 : decode cX1_isHeldRight 193 = .ok (.iload_n 1, 1) := by decide +kernel
theorem dX1_isHeldRight_194 : decode cX1_isHeldRight 194 = .ok (.invokevirtual 128, 3) := by decide +kernel
theorem dX1_isHeldRight_197 : decode cX1_isHeldRight 197 = .ok (.if_icmp .ne 7, 3) := by decide +kernel
theorem dX1_isHeldRight_200 : decode cX1_isHeldRight 200 = .ok (.iconst 1, 1) := by decide +kernel
theorem dX1_isHeldRight_201 : decode cX1_isHeldRight 201 = .ok (.goto 4, 3) := by decide +kernel
theorem dX1_isHeldRight_204 : decode cX1_isHeldRight 204 = .ok (.iconst 0, 1) := by decide +kernel
theorem dX1_isHeldRight_205 : decode cX1_isHeldRight 205 = .ok (.ireturn, 1) := by decide +kernel
theorem dX1_use_0 : decode cX1_use 0 = .ok (.iload_n 1, 1) := by decide +kernel
theorem dX1_use_1 : decode cX1_use 1 = .ok (.aload_n 0, 1) := by decide +kernel
theorem dX1_use_2 : decode cX1_use 2 = .ok (.getfield 19, 3) := by decide +kernel
theorem dX1_use_5 : decode cX1_use 5 = .ok (.getfield 81, 3) := by decide +kernel
theorem dX1_use_8 : decode cX1_use 8 = .ok (.if_icmp .lt 25, 3) := by decide +kernel
theorem dX1_use_11 : decode cX1_use 11 = .ok (.iload_n 1, 1) := by decide +kernel
theorem dX1_use_12 : decode cX1_use 12 = .ok (.aload_n 0, 1) := by decide +kernel
theorem dX1_use_13 : decode cX1_use 13 = .ok (.getfield 33, 3) := by decide +kernel
theorem dX1_use_16 : decode cX1_use 16 = .ok (.arraylength, 1) := by decide +kernel
theorem dX1_use_17 : decode cX1_use 17 = .ok (.if_icmp .ge 16, 3) := by decide +kernel
theorem dX1_use_20 : decode cX1_use 20 = .ok (.aload_n 0, 1) := by decide +kernel
theorem dX1_use_21 : decode cX1_use 21 = .ok (.getfield 33, 3) := by decide +kernel
theorem dX1_use_24 : decode cX1_use 24 = .ok (.iload_n 1, 1) := by decide +kernel
theorem dX1_use_25 : decode cX1_use 25 = .ok (.dup2, 1) := by decide +kernel
theorem dX1_use_26 : decode cX1_use 26 = .ok (.iaload, 1) := by decide +kernel
theorem dX1_use_27 : decode cX1_use 27 = .ok (.iconst 1, 1) := by decide +kernel
theorem dX1_use_28 : decode cX1_use 28 = .ok (.iadd, 1) := by decide +kernel
theorem dX1_use_29 : decode cX1_use 29 = .ok (.iastore, 1) := by decide +kernel
theorem dX1_use_30 : decode cX1_use 30 = .ok (.goto 13, 3) := by decide +kernel
theorem dX1_use_33 : decode cX1_use 33 = .ok (.aload_n 0, 1) := by decide +kernel
theorem dX1_use_34 : decode cX1_use 34 = .ok (.dup, 1) := by decide +kernel
theorem dX1_use_35 : decode cX1_use 35 = .ok (.getfield 43, 3) := by decide +kernel
theorem dX1_use_38 : decode cX1_use 38 = .ok (.iconst 1, 1) := by decide +kernel
theorem dX1_use_39 : decode cX1_use 39 = .ok (.iadd, 1) := by decide +kernel
theorem dX1_use_40 : decode cX1_use 40 = .ok (.putfield 43, 3) := by decide +kernel
theorem dX1_use_43 : decode cX1_use 43 = .ok (.return_, 1) := by decide +kernel
theorem dX1_useTold_0 : decode cX1_useTold 0 = .ok (.iconst 0, 1) := by decide +kernel
theorem dX1_useTold_1 : decode cX1_useTold 1 = .ok (.istore 5, 2) := by decide +kernel
theorem dX1_useTold_3 : decode cX1_useTold 3 = .ok (.iconst 0, 1) := by decide +kernel
theorem dX1_useTold_4 : decode cX1_useTold 4 = .ok (.istore 6, 2) := by decide +kernel
theorem dX1_useTold_6 : decode cX1_useTold 6 = .ok (.iload 6, 2) := by decide +kernel
theorem dX1_useTold_8 : decode cX1_useTold 8 = .ok (.iload_n 3, 1) := by decide +kernel
theorem dX1_useTold_9 : decode cX1_useTold 9 = .ok (.if_icmp .ge 53, 3) := by decide +kernel
theorem dX1_useTold_12 : decode cX1_useTold 12 = .ok (.aload_n 0, 1) := by decide +kernel
theorem dX1_useTold_13 : decode cX1_useTold 13 = .ok (.getfield 15, 3) := by decide +kernel
theorem dX1_useTold_16 : decode cX1_useTold 16 = .ok (.iload_n 1, 1) := by decide +kernel
theorem dX1_useTold_17 : decode cX1_useTold 17 = .ok (.iload_n 2, 1) := by decide +kernel
theorem dX1_useTold_18 : decode cX1_useTold 18 = .ok (.iload 6, 2) := by decide +kernel
theorem dX1_useTold_20 : decode cX1_useTold 20 = .ok (.iadd, 1) := by decide +kernel
theorem dX1_useTold_21 : decode cX1_useTold 21 = .ok (.invokevirtual 96, 3) := by decide +kernel
theorem dX1_useTold_24 : decode cX1_useTold 24 = .ok (.istore 7, 2) := by decide +kernel
theorem dX1_useTold_26 : decode cX1_useTold 26 = .ok (.iload 7, 2) := by decide +kernel
theorem dX1_useTold_28 : decode cX1_useTold 28 = .ok (.ifCond .eq 28, 3) := by decide +kernel
theorem dX1_useTold_31 : decode cX1_useTold 31 = .ok (.aload_n 0, 1) := by decide +kernel
theorem dX1_useTold_32 : decode cX1_useTold 32 = .ok (.iload 7, 2) := by decide +kernel
theorem dX1_useTold_34 : decode cX1_useTold 34 = .ok (.invokevirtual 106, 3) := by decide +kernel
theorem dX1_useTold_37 : decode cX1_useTold 37 = .ok (.aload_n 0, 1) := by decide +kernel
theorem dX1_useTold_38 : decode cX1_useTold 38 = .ok (.iload 6, 2) := by decide +kernel
theorem dX1_useTold_40 : decode cX1_useTold 40 = .ok (.iload 4, 2) := by decide +kernel
theorem dX1_useTold_42 : decode cX1_useTold 42 = .ok (.if_icmp .ge 7, 3) := by decide +kernel
theorem dX1_useTold_45 : decode cX1_useTold 45 = .ok (.iconst 1, 1) := by decide +kernel
theorem dX1_useTold_46 : decode cX1_useTold 46 = .ok (.goto 4, 3) := by decide +kernel
theorem dX1_useTold_49 : decode cX1_useTold 49 = .ok (.iconst 0, 1) := by decide +kernel
theorem dX1_useTold_50 : decode cX1_useTold 50 = .ok (.invokevirtual 72, 3) := by decide +kernel
theorem dX1_useTold_53 : decode cX1_useTold 53 = .ok (.iinc 5 1, 3) := by decide +kernel
theorem dX1_useTold_56 : decode cX1_useTold 56 = .ok (.iinc 6 1, 3) := by decide +kernel
theorem dX1_useTold_59 : decode cX1_useTold 59 = .ok (.goto (-53), 3) := by decide +kernel
theorem dX1_useTold_62 : decode cX1_useTold 62 = .ok (.iload 5, 2) := by decide +kernel
theorem dX1_useTold_64 : decode cX1_useTold 64 = .ok (.ireturn, 1) := by decide +kernel
theorem dX1_useIndex_0 : decode cX1_useIndex 0 = .ok (.iload_n 1, 1) := by decide +kernel
theorem dX1_useIndex_1 : decode cX1_useIndex 1 = .ok (.ifCond .eq 29, 3) := by decide +kernel
theorem dX1_useIndex_4 : decode cX1_useIndex 4 = .ok (.aload_n 0, 1) := by decide +kernel
theorem dX1_useIndex_5 : decode cX1_useIndex 5 = .ok (.iload_n 1, 1) := by decide +kernel
theorem dX1_useIndex_6 : decode cX1_useIndex 6 = .ok (.invokevirtual 106, 3) := by decide +kernel
theorem dX1_useIndex_9 : decode cX1_useIndex 9 = .ok (.aload_n 0, 1) := by decide +kernel
theorem dX1_useIndex_10 : decode cX1_useIndex 10 = .ok (.aload_n 0, 1) := by decide +kernel
theorem dX1_useIndex_11 : decode cX1_useIndex 11 = .ok (.iload_n 1, 1) := by decide +kernel
theorem dX1_useIndex_12 : decode cX1_useIndex 12 = .ok (.iconst 0, 1) := by decide +kernel
theorem dX1_useIndex_13 : decode cX1_useIndex 13 = .ok (.bipush 32, 2) := by decide +kernel
theorem dX1_useIndex_15 : decode cX1_useIndex 15 = .ok (.iload_n 2, 1) := by decide +kernel
theorem dX1_useIndex_16 : decode cX1_useIndex 16 = .ok (.invokevirtual 92, 3) := by decide +kernel
theorem dX1_useIndex_19 : decode cX1_useIndex 19 = .ok (.ifCond .le 7, 3) := by decide +kernel
theorem dX1_useIndex_22 : decode cX1_useIndex 22 = .ok (.iconst 1, 1) := by decide +kernel
theorem dX1_useIndex_23 : decode cX1_useIndex 23 = .ok (.goto 4, 3) := by decide +kernel
theorem dX1_useIndex_26 : decode cX1_useIndex 26 = .ok (.iconst 0, 1) := by decide +kernel
theorem dX1_useIndex_27 : decode cX1_useIndex 27 = .ok (.invokevirtual 72, 3) := by decide +kernel
theorem dX1_useIndex_30 : decode cX1_useIndex 30 = .ok (.return_, 1) := by decide +kernel
theorem dX1_useFile_0 : decode cX1_useFile 0 = .ok (.aload_n 0, 1) := by decide +kernel
theorem dX1_useFile_1 : decode cX1_useFile 1 = .ok (.getfield 23, 3) := by decide +kernel
theorem dX1_useFile_4 : decode cX1_useFile 4 = .ok (.iload_n 1, 1) := by decide +kernel
theorem dX1_useFile_5 : decode cX1_useFile 5 = .ok (.invokevirtual 84, 3) := by decide +kernel
theorem dX1_useFile_8 : decode cX1_useFile 8 = .ok (.istore_n 2, 1) := by decide +kernel
theorem dX1_useFile_9 : decode cX1_useFile 9 = .ok (.aload_n 0, 1) := by decide +kernel
theorem dX1_useFile_10 : decode cX1_useFile 10 = .ok (.getfield 23, 3) := by decide +kernel
theorem dX1_useFile_13 : decode cX1_useFile 13 = .ok (.iload_n 1, 1) := by decide +kernel
theorem dX1_useFile_14 : decode cX1_useFile 14 = .ok (.invokevirtual 87, 3) := by decide +kernel
theorem dX1_useFile_17 : decode cX1_useFile 17 = .ok (.bipush 64, 2) := by decide +kernel
theorem dX1_useFile_19 : decode cX1_useFile 19 = .ok (.iadd, 1) := by decide +kernel
theorem dX1_useFile_20 : decode cX1_useFile 20 = .ok (.iconst 1, 1) := by decide +kernel
theorem dX1_useFile_21 : decode cX1_useFile 21 = .ok (.isub, 1) := by decide +kernel
theorem dX1_useFile_22 : decode cX1_useFile 22 = .ok (.bipush 64, 2) := by decide +kernel
theorem dX1_useFile_24 : decode cX1_useFile 24 = .ok (.idiv, 1) := by decide +kernel
theorem dX1_useFile_25 : decode cX1_useFile 25 = .ok (.istore_n 3, 1) := by decide +kernel
theorem dX1_useFile_26 : decode cX1_useFile 26 = .ok (.aload_n 0, 1) := by decide +kernel
theorem dX1_useFile_27 : decode cX1_useFile 27 = .ok (.iload_n 2, 1) := by decide +kernel
theorem dX1_useFile_28 : decode cX1_useFile 28 = .ok (.iconst 4, 1) := by decide +kernel
theorem dX1_useFile_29 : decode cX1_useFile 29 = .ok (.bipush 12, 2) := by decide +kernel
theorem dX1_useFile_31 : decode cX1_useFile 31 = .ok (.iload_n 3, 1) := by decide +kernel
theorem dX1_useFile_32 : decode cX1_useFile 32 = .ok (.invokevirtual 92, 3) := by decide +kernel
theorem dX1_useFile_35 : decode cX1_useFile 35 = .ok (.pop, 1) := by decide +kernel
theorem dX1_useFile_36 : decode cX1_useFile 36 = .ok (.aload_n 0, 1) := by decide +kernel
theorem dX1_useFile_37 : decode cX1_useFile 37 = .ok (.aload_n 0, 1) := by decide +kernel
theorem dX1_useFile_38 : decode cX1_useFile 38 = .ok (.getfield 15, 3) := by decide +kernel
theorem dX1_useFile_41 : decode cX1_useFile 41 = .ok (.iload_n 2, 1) := by decide +kernel
theorem dX1_useFile_42 : decode cX1_useFile 42 = .ok (.bipush 16, 2) := by decide +kernel
theorem dX1_useFile_44 : decode cX1_useFile 44 = .ok (.invokevirtual 96, 3) := by decide +kernel
theorem dX1_useFile_47 : decode cX1_useFile 47 = .ok (.iload_n 3, 1) := by decide +kernel
theorem dX1_useFile_48 : decode cX1_useFile 48 = .ok (.bipush 12, 2) := by decide +kernel
theorem dX1_useFile_50 : decode cX1_useFile 50 = .ok (.isub, 1) := by decide +kernel
theorem dX1_useFile_51 : decode cX1_useFile 51 = .ok (.invokevirtual 102, 3) := by decide +kernel
theorem dX1_useFile_54 : decode cX1_useFile 54 = .ok (.aload_n 0, 1) := by decide +kernel
theorem dX1_useFile_55 : decode cX1_useFile 55 = .ok (.getfield 15, 3) := by decide +kernel
theorem dX1_useFile_58 : decode cX1_useFile 58 = .ok (.iload_n 2, 1) := by decide +kernel
theorem dX1_useFile_59 : decode cX1_useFile 59 = .ok (.bipush 17, 2) := by decide +kernel
theorem dX1_useFile_61 : decode cX1_useFile 61 = .ok (.invokevirtual 96, 3) := by decide +kernel
theorem dX1_useFile_64 : decode cX1_useFile 64 = .ok (.istore 4, 2) := by decide +kernel
theorem dX1_useFile_66 : decode cX1_useFile 66 = .ok (.iload 4, 2) := by decide +kernel
theorem dX1_useFile_68 : decode cX1_useFile 68 = .ok (.ifCond .ne 4, 3) := by decide +kernel
theorem dX1_useFile_71 : decode cX1_useFile 71 = .ok (.return_, 1) := by decide +kernel
theorem dX1_useFile_72 : decode cX1_useFile 72 = .ok (.aload_n 0, 1) := by decide +kernel
theorem dX1_useFile_73 : decode cX1_useFile 73 = .ok (.iload 4, 2) := by decide +kernel
theorem dX1_useFile_75 : decode cX1_useFile 75 = .ok (.invokevirtual 106, 3) := by decide +kernel
theorem dX1_useFile_78 : decode cX1_useFile 78 = .ok (.iconst 0, 1) := by decide +kernel
theorem dX1_useFile_79 : decode cX1_useFile 79 = .ok (.istore 5, 2) := by decide +kernel
theorem dX1_useFile_81 : decode cX1_useFile 81 = .ok (.iconst 0, 1) := by decide +kernel
theorem dX1_useFile_82 : decode cX1_useFile 82 = .ok (.istore 6, 2) := by decide +kernel
theorem dX1_useFile_84 : decode cX1_useFile 84 = .ok (.iload 6, 2) := by decide +kernel
theorem dX1_useFile_86 : decode cX1_useFile 86 = .ok (.bipush 32, 2) := by decide +kernel
theorem dX1_useFile_88 : decode cX1_useFile 88 = .ok (.if_icmp .ge 55, 3) := by decide +kernel
theorem dX1_useFile_91 : decode cX1_useFile 91 = .ok (.aload_n 0, 1) := by decide +kernel
theorem dX1_useFile_92 : decode cX1_useFile 92 = .ok (.getfield 15, 3) := by decide +kernel
theorem dX1_useFile_95 : decode cX1_useFile 95 = .ok (.iload 4, 2) := by decide +kernel
theorem dX1_useFile_97 : decode cX1_useFile 97 = .ok (.iload 6, 2) := by decide +kernel
theorem dX1_useFile_99 : decode cX1_useFile 99 = .ok (.invokevirtual 96, 3) := by decide +kernel
theorem dX1_useFile_102 : decode cX1_useFile 102 = .ok (.istore 7, 2) := by decide +kernel
theorem dX1_useFile_104 : decode cX1_useFile 104 = .ok (.iload 5, 2) := by decide +kernel
theorem dX1_useFile_106 : decode cX1_useFile 106 = .ok (.ifCond .ne 8, 3) := by decide +kernel
theorem dX1_useFile_109 : decode cX1_useFile 109 = .ok (.iload 7, 2) := by decide +kernel
theorem dX1_useFile_111 : decode cX1_useFile 111 = .ok (.ifCond .eq 7, 3) := by decide +kernel
theorem dX1_useFile_114 : decode cX1_useFile 114 = .ok (.iconst 1, 1) := by decide +kernel
theorem dX1_useFile_115 : decode cX1_useFile 115 = .ok (.goto 4, 3) := by decide +kernel
theorem dX1_useFile_118 : decode cX1_useFile 118 = .ok (.iconst 0, 1) := by decide +kernel
theorem dX1_useFile_119 : decode cX1_useFile 119 = .ok (.istore 5, 2) := by decide +kernel
theorem dX1_useFile_121 : decode cX1_useFile 121 = .ok (.aload_n 0, 1) := by decide +kernel
theorem dX1_useFile_122 : decode cX1_useFile 122 = .ok (.iload 7, 2) := by decide +kernel
theorem dX1_useFile_124 : decode cX1_useFile 124 = .ok (.iload_n 3, 1) := by decide +kernel
theorem dX1_useFile_125 : decode cX1_useFile 125 = .ok (.bipush 44, 2) := by decide +kernel
theorem dX1_useFile_127 : decode cX1_useFile 127 = .ok (.isub, 1) := by decide +kernel
theorem dX1_useFile_128 : decode cX1_useFile 128 = .ok (.bipush 32, 2) := by decide +kernel
theorem dX1_useFile_130 : decode cX1_useFile 130 = .ok (.iload 6, 2) := by decide +kernel
theorem dX1_useFile_132 : decode cX1_useFile 132 = .ok (.imul, 1) := by decide +kernel
theorem dX1_useFile_133 : decode cX1_useFile 133 = .ok (.isub, 1) := by decide +kernel
theorem dX1_useFile_134 : decode cX1_useFile 134 = .ok (.invokevirtual 102, 3) := by decide +kernel
theorem dX1_useFile_137 : decode cX1_useFile 137 = .ok (.iinc 6 1, 3) := by decide +kernel
theorem dX1_useFile_140 : decode cX1_useFile 140 = .ok (.goto (-56), 3) := by decide +kernel
theorem dX1_useFile_143 : decode cX1_useFile 143 = .ok (.aload_n 0, 1) := by decide +kernel
theorem dX1_useFile_144 : decode cX1_useFile 144 = .ok (.iload 5, 2) := by decide +kernel
theorem dX1_useFile_146 : decode cX1_useFile 146 = .ok (.invokevirtual 72, 3) := by decide +kernel
theorem dX1_useFile_149 : decode cX1_useFile 149 = .ok (.return_, 1) := by decide +kernel
theorem dX1_useSlot_0 : decode cX1_useSlot 0 = .ok (.iload_n 2, 1) := by decide +kernel
theorem dX1_useSlot_1 : decode cX1_useSlot 1 = .ok (.ifCond .lt 21, 3) := by decide +kernel
theorem dX1_useSlot_4 : decode cX1_useSlot 4 = .ok (.iload_n 2, 1) := by decide +kernel
theorem dX1_useSlot_5 : decode cX1_useSlot 5 = .ok (.aload_n 0, 1) := by decide +kernel
theorem dX1_useSlot_6 : decode cX1_useSlot 6 = .ok (.getfield 37, 3) := by decide +kernel
theorem dX1_useSlot_9 : decode cX1_useSlot 9 = .ok (.arraylength, 1) := by decide +kernel
theorem dX1_useSlot_10 : decode cX1_useSlot 10 = .ok (.if_icmp .ge 12, 3) := by decide +kernel
theorem dX1_useSlot_13 : decode cX1_useSlot 13 = .ok (.iload_n 2, 1) := by decide +kernel
theorem dX1_useSlot_14 : decode cX1_useSlot 14 = .ok (.aload_n 0, 1) := by decide +kernel
theorem dX1_useSlot_15 : decode cX1_useSlot 15 = .ok (.getfield 40, 3) := by decide +kernel
theorem dX1_useSlot_18 : decode cX1_useSlot 18 = .ok (.arraylength, 1) := by decide +kernel
theorem dX1_useSlot_19 : decode cX1_useSlot 19 = .ok (.if_icmp .lt 14, 3) := by decide +kernel
theorem dX1_useSlot_22 : decode cX1_useSlot 22 = .ok (.aload_n 0, 1) := by decide +kernel
theorem dX1_useSlot_23 : decode cX1_useSlot 23 = .ok (.dup, 1) := by decide +kernel
theorem dX1_useSlot_24 : decode cX1_useSlot 24 = .ok (.getfield 43, 3) := by decide +kernel
theorem dX1_useSlot_27 : decode cX1_useSlot 27 = .ok (.iconst 1, 1) := by decide +kernel
theorem dX1_useSlot_28 : decode cX1_useSlot 28 = .ok (.iadd, 1) := by decide +kernel
theorem dX1_useSlot_29 : decode cX1_useSlot 29 = .ok (.putfield 43, 3) := by decide +kernel
theorem dX1_useSlot_32 : decode cX1_useSlot 32 = .ok (.return_, 1) := by decide +kernel
theorem dX1_useSlot_33 : decode cX1_useSlot 33 = .ok (.aload_n 0, 1) := by decide +kernel
theorem dX1_useSlot_34 : decode cX1_useSlot 34 = .ok (.getfield 37, 3) := by decide +kernel
theorem dX1_useSlot_37 : decode cX1_useSlot 37 = .ok (.iload_n 2, 1) := by decide +kernel
theorem dX1_useSlot_38 : decode cX1_useSlot 38 = .ok (.dup2, 1) := by decide +kernel
theorem dX1_useSlot_39 : decode cX1_useSlot 39 = .ok (.iaload, 1) := by decide +kernel
theorem dX1_useSlot_40 : decode cX1_useSlot 40 = .ok (.iconst 1, 1) := by decide +kernel
theorem dX1_useSlot_41 : decode cX1_useSlot 41 = .ok (.iadd, 1) := by decide +kernel
theorem dX1_useSlot_42 : decode cX1_useSlot 42 = .ok (.iastore, 1) := by decide +kernel
theorem dX1_useSlot_43 : decode cX1_useSlot 43 = .ok (.aload_n 0, 1) := by decide +kernel
theorem dX1_useSlot_44 : decode cX1_useSlot 44 = .ok (.getfield 40, 3) := by decide +kernel
theorem dX1_useSlot_47 : decode cX1_useSlot 47 = .ok (.iload_n 2, 1) := by decide +kernel
theorem dX1_useSlot_48 : decode cX1_useSlot 48 = .ok (.iload_n 1, 1) := by decide +kernel
theorem dX1_useSlot_49 : decode cX1_useSlot 49 = .ok (.iastore, 1) := by decide +kernel
theorem dX1_useSlot_50 : decode cX1_useSlot 50 = .ok (.return_, 1) := by decide +kernel
theorem dX1_useDirectory_0 : decode cX1_useDirectory 0 = .ok (.iconst 0, 1) := by decide +kernel
theorem dX1_useDirectory_1 : decode cX1_useDirectory 1 = .ok (.istore_n 2, 1) := by decide +kernel
theorem dX1_useDirectory_2 : decode cX1_useDirectory 2 = .ok (.iload_n 2, 1) := by decide +kernel
theorem dX1_useDirectory_3 : decode cX1_useDirectory 3 = .ok (.bipush 12, 2) := by decide +kernel
theorem dX1_useDirectory_5 : decode cX1_useDirectory 5 = .ok (.if_icmp .ge 88, 3) := by decide +kernel
theorem dX1_useDirectory_8 : decode cX1_useDirectory 8 = .ok (.aload_n 0, 1) := by decide +kernel
theorem dX1_useDirectory_9 : decode cX1_useDirectory 9 = .ok (.getfield 15, 3) := by decide +kernel
theorem dX1_useDirectory_12 : decode cX1_useDirectory 12 = .ok (.aload_n 0, 1) := by decide +kernel
theorem dX1_useDirectory_13 : decode cX1_useDirectory 13 = .ok (.getfield 23, 3) := by decide +kernel
theorem dX1_useDirectory_16 : decode cX1_useDirectory 16 = .ok (.iload_n 1, 1) := by decide +kernel
theorem dX1_useDirectory_17 : decode cX1_useDirectory 17 = .ok (.invokevirtual 84, 3) := by decide +kernel
theorem dX1_useDirectory_20 : decode cX1_useDirectory 20 = .ok (.iconst 4, 1) := by decide +kernel
theorem dX1_useDirectory_21 : decode cX1_useDirectory 21 = .ok (.iload_n 2, 1) := by decide +kernel
theorem dX1_useDirectory_22 : decode cX1_useDirectory 22 = .ok (.iadd, 1) := by decide +kernel
theorem dX1_useDirectory_23 : decode cX1_useDirectory 23 = .ok (.invokevirtual 96, 3) := by decide +kernel
theorem dX1_useDirectory_26 : decode cX1_useDirectory 26 = .ok (.istore_n 3, 1) := by decide +kernel
theorem dX1_useDirectory_27 : decode cX1_useDirectory 27 = .ok (.iload_n 3, 1) := by decide +kernel
theorem dX1_useDirectory_28 : decode cX1_useDirectory 28 = .ok (.ifCond .ne 6, 3) := by decide +kernel
theorem dX1_useDirectory_31 : decode cX1_useDirectory 31 = .ok (.goto 56, 3) := by decide +kernel
theorem dX1_useDirectory_34 : decode cX1_useDirectory 34 = .ok (.aload_n 0, 1) := by decide +kernel
theorem dX1_useDirectory_35 : decode cX1_useDirectory 35 = .ok (.iload_n 3, 1) := by decide +kernel
theorem dX1_useDirectory_36 : decode cX1_useDirectory 36 = .ok (.invokevirtual 106, 3) := by decide +kernel
theorem dX1_useDirectory_39 : decode cX1_useDirectory 39 = .ok (.iconst 0, 1) := by decide +kernel
theorem dX1_useDirectory_40 : decode cX1_useDirectory 40 = .ok (.istore 4, 2) := by decide +kernel
theorem dX1_useDirectory_42 : decode cX1_useDirectory 42 = .ok (.iload 4, 2) := by decide +kernel
theorem dX1_useDirectory_44 : decode cX1_useDirectory 44 = .ok (.iconst 4, 1) := by decide +kernel
theorem dX1_useDirectory_45 : decode cX1_useDirectory 45 = .ok (.if_icmp .ge 42, 3) := by decide +kernel
theorem dX1_useDirectory_48 : decode cX1_useDirectory 48 = .ok (.aload_n 0, 1) := by decide +kernel
theorem dX1_useDirectory_49 : decode cX1_useDirectory 49 = .ok (.getfield 15, 3) := by decide +kernel
theorem dX1_useDirectory_52 : decode cX1_useDirectory 52 = .ok (.iload_n 3, 1) := by decide +kernel
theorem dX1_useDirectory_53 : decode cX1_useDirectory 53 = .ok (.iload 4, 2) := by decide +kernel
theorem dX1_useDirectory_55 : decode cX1_useDirectory 55 = .ok (.invokevirtual 117, 3) := by decide +kernel
theorem dX1_useDirectory_58 : decode cX1_useDirectory 58 = .ok (.lconst 0, 1) := by decide +kernel
theorem dX1_useDirectory_59 : decode cX1_useDirectory 59 = .ok (.lcmp, 1) := by decide +kernel
theorem dX1_useDirectory_60 : decode cX1_useDirectory 60 = .ok (.ifCond .eq 21, 3) := by decide +kernel
theorem dX1_useDirectory_63 : decode cX1_useDirectory 63 = .ok (.aload_n 0, 1) := by decide +kernel
theorem dX1_useDirectory_64 : decode cX1_useDirectory 64 = .ok (.iload_n 1, 1) := by decide +kernel
theorem dX1_useDirectory_65 : decode cX1_useDirectory 65 = .ok (.aload_n 0, 1) := by decide +kernel
theorem dX1_useDirectory_66 : decode cX1_useDirectory 66 = .ok (.getfield 15, 3) := by decide +kernel
theorem dX1_useDirectory_69 : decode cX1_useDirectory 69 = .ok (.iload_n 3, 1) := by decide +kernel
theorem dX1_useDirectory_70 : decode cX1_useDirectory 70 = .ok (.bipush 16, 2) := by decide +kernel
theorem dX1_useDirectory_72 : decode cX1_useDirectory 72 = .ok (.iload 4, 2) := by decide +kernel
theorem dX1_useDirectory_74 : decode cX1_useDirectory 74 = .ok (.iadd, 1) := by decide +kernel
theorem dX1_useDirectory_75 : decode cX1_useDirectory 75 = .ok (.invokevirtual 96, 3) := by decide +kernel
theorem dX1_useDirectory_78 : decode cX1_useDirectory 78 = .ok (.invokevirtual 121, 3) := by decide +kernel
theorem dX1_useDirectory_81 : decode cX1_useDirectory 81 = .ok (.iinc 4 1, 3) := by decide +kernel
theorem dX1_useDirectory_84 : decode cX1_useDirectory 84 = .ok (.goto (-42), 3) := by decide +kernel
theorem dX1_useDirectory_87 : decode cX1_useDirectory 87 = .ok (.iinc 2 1, 3) := by decide +kernel
theorem dX1_useDirectory_90 : decode cX1_useDirectory 90 = .ok (.goto (-88), 3) := by decide +kernel
theorem dX1_useDirectory_93 : decode cX1_useDirectory 93 = .ok (.return_, 1) := by decide +kernel
theorem dX1_useLaid_0 : decode cX1_useLaid 0 = .ok (.aload_n 0, 1) := by decide +kernel
theorem dX1_useLaid_1 : decode cX1_useLaid 1 = .ok (.getfield 23, 3) := by decide +kernel
theorem dX1_useLaid_4 : decode cX1_useLaid 4 = .ok (.iload_n 1, 1) := by decide +kernel
theorem dX1_useLaid_5 : decode cX1_useLaid 5 = .ok (.invokevirtual 109, 3) := by decide +kernel
theorem dX1_useLaid_8 : decode cX1_useLaid 8 = .ok (.aload_n 0, 1) := by decide +kernel
theorem dX1_useLaid_9 : decode cX1_useLaid 9 = .ok (.getfield 9, 3) := by decide +kernel
theorem dX1_useLaid_12 : decode cX1_useLaid 12 = .ok (.getfield 112, 3) := by decide +kernel
theorem dX1_useLaid_15 : decode cX1_useLaid 15 = .ok (.imul, 1) := by decide +kernel
theorem dX1_useLaid_16 : decode cX1_useLaid 16 = .ok (.istore_n 2, 1) := by decide +kernel
theorem dX1_useLaid_17 : decode cX1_useLaid 17 = .ok (.iconst 0, 1) := by decide +kernel
theorem dX1_useLaid_18 : decode cX1_useLaid 18 = .ok (.istore_n 3, 1) := by decide +kernel
theorem dX1_useLaid_19 : decode cX1_useLaid 19 = .ok (.iload_n 3, 1) := by decide +kernel
theorem dX1_useLaid_20 : decode cX1_useLaid 20 = .ok (.aload_n 0, 1) := by decide +kernel
theorem dX1_useLaid_21 : decode cX1_useLaid 21 = .ok (.getfield 9, 3) := by decide +kernel
theorem dX1_useLaid_24 : decode cX1_useLaid 24 = .ok (.getfield 112, 3) := by decide +kernel
theorem dX1_useLaid_27 : decode cX1_useLaid 27 = .ok (.if_icmp .ge 16, 3) := by decide +kernel
theorem dX1_useLaid_30 : decode cX1_useLaid 30 = .ok (.aload_n 0, 1) := by decide +kernel
theorem dX1_useLaid_31 : decode cX1_useLaid 31 = .ok (.iload_n 2, 1) := by decide +kernel
theorem dX1_useLaid_32 : decode cX1_useLaid 32 = .ok (.iload_n 3, 1) := by decide +kernel
theorem dX1_useLaid_33 : decode cX1_useLaid 33 = .ok (.iadd, 1) := by decide +kernel
theorem dX1_useLaid_34 : decode cX1_useLaid 34 = .ok (.invokevirtual 106, 3) := by decide +kernel
theorem dX1_useLaid_37 : decode cX1_useLaid 37 = .ok (.iinc 3 1, 3) := by decide +kernel
theorem dX1_useLaid_40 : decode cX1_useLaid 40 = .ok (.goto (-21), 3) := by decide +kernel
theorem dX1_useLaid_43 : decode cX1_useLaid 43 = .ok (.return_, 1) := by decide +kernel
theorem dX1_wrongThings_0 : decode cX1_wrongThings 0 = .ok (.aload_n 0, 1) := by decide +kernel
theorem dX1_wrongThings_1 : decode cX1_wrongThings 1 = .ok (.iconst 0, 1) := by decide +kernel
theorem dX1_wrongThings_2 : decode cX1_wrongThings 2 = .ok (.putfield 43, 3) := by decide +kernel
theorem dX1_wrongThings_5 : decode cX1_wrongThings 5 = .ok (.aload_n 0, 1) := by decide +kernel
theorem dX1_wrongThings_6 : decode cX1_wrongThings 6 = .ok (.getfield 33, 3) := by decide +kernel
theorem dX1_wrongThings_9 : decode cX1_wrongThings 9 = .ok (.iconst 0, 1) := by decide +kernel
theorem dX1_wrongThings_10 : decode cX1_wrongThings 10 = .ok (.invokestatic 46, 3) := by decide +kernel
theorem dX1_wrongThings_13 : decode cX1_wrongThings 13 = .ok (.aload_n 0, 1) := by decide +kernel
theorem dX1_wrongThings_14 : decode cX1_wrongThings 14 = .ok (.getfield 37, 3) := by decide +kernel
theorem dX1_wrongThings_17 : decode cX1_wrongThings 17 = .ok (.iconst 0, 1) := by decide +kernel
theorem dX1_wrongThings_18 : decode cX1_wrongThings 18 = .ok (.invokestatic 46, 3) := by decide +kernel
theorem dX1_wrongThings_21 : decode cX1_wrongThings 21 = .ok (.aload_n 0, 1) := by decide +kernel
theorem dX1_wrongThings_22 : decode cX1_wrongThings 22 = .ok (.getfield 40, 3) := by decide +kernel
theorem dX1_wrongThings_25 : decode cX1_wrongThings 25 = .ok (.iconst (-1), 1) := by decide +kernel
theorem dX1_wrongThings_26 : decode cX1_wrongThings 26 = .ok (.invokestatic 46, 3) := by decide +kernel
theorem dX1_wrongThings_29 : decode cX1_wrongThings 29 = .ok (.iconst 0, 1) := by decide +kernel
theorem dX1_wrongThings_30 : decode cX1_wrongThings 30 = .ok (.istore_n 1, 1) := by decide +kernel
theorem dX1_wrongThings_31 : decode cX1_wrongThings 31 = .ok (.iload_n 1, 1) := by decide +kernel
theorem dX1_wrongThings_32 : decode cX1_wrongThings 32 = .ok (.bipush 64, 2) := by decide +kernel
theorem dX1_wrongThings_34 : decode cX1_wrongThings 34 = .ok (.if_icmp .ge 68, 3) := by decide +kernel
theorem dX1_wrongThings_37 : decode cX1_wrongThings 37 = .ok (.aload_n 0, 1) := by decide +kernel
theorem dX1_wrongThings_38 : decode cX1_wrongThings 38 = .ok (.getfield 23, 3) := by decide +kernel
theorem dX1_wrongThings_41 : decode cX1_wrongThings 41 = .ok (.iload_n 1, 1) := by decide +kernel
theorem dX1_wrongThings_42 : decode cX1_wrongThings 42 = .ok (.invokevirtual 52, 3) := by decide +kernel
theorem dX1_wrongThings_45 : decode cX1_wrongThings 45 = .ok (.tableswitch 51 1 3 #[27, 35, 43], 27) := by decide +kernel
theorem dX1_wrongThings_72 : decode cX1_wrongThings 72 = .ok (.aload_n 0, 1) := by decide +kernel
theorem dX1_wrongThings_73 : decode cX1_wrongThings 73 = .ok (.iload_n 1, 1) := by decide +kernel
theorem dX1_wrongThings_74 : decode cX1_wrongThings 74 = .ok (.invokevirtual 58, 3) := by decide +kernel
theorem dX1_wrongThings_77 : decode cX1_wrongThings 77 = .ok (.goto 19, 3) := by decide +kernel
theorem dX1_wrongThings_80 : decode cX1_wrongThings 80 = .ok (.aload_n 0, 1) := by decide +kernel
theorem dX1_wrongThings_81 : decode cX1_wrongThings 81 = .ok (.iload_n 1, 1) := by decide +kernel
theorem dX1_wrongThings_82 : decode cX1_wrongThings 82 = .ok (.invokevirtual 62, 3) := by decide +kernel
theorem dX1_wrongThings_85 : decode cX1_wrongThings 85 = .ok (.goto 11, 3) := by decide +kernel
theorem dX1_wrongThings_88 : decode cX1_wrongThings 88 = .ok (.aload_n 0, 1) := by decide +kernel
theorem dX1_wrongThings_89 : decode cX1_wrongThings 89 = .ok (.iload_n 1, 1) := by decide +kernel
theorem dX1_wrongThings_90 : decode cX1_wrongThings 90 = .ok (.invokevirtual 65, 3) := by decide +kernel
theorem dX1_wrongThings_93 : decode cX1_wrongThings 93 = .ok (.goto 3, 3) := by decide +kernel
theorem dX1_wrongThings_96 : decode cX1_wrongThings 96 = .ok (.iinc 1 1, 3) := by decide +kernel
theorem dX1_wrongThings_99 : decode cX1_wrongThings 99 = .ok (.goto (-68), 3) := by decide +kernel
theorem dX1_wrongThings_102 : decode cX1_wrongThings 102 = .ok (.iconst 0, 1) := by decide +kernel
theorem dX1_wrongThings_103 : decode cX1_wrongThings 103 = .ok (.istore_n 1, 1) := by decide +kernel
theorem dX1_wrongThings_104 : decode cX1_wrongThings 104 = .ok (.iload_n 1, 1) := by decide +kernel
theorem dX1_wrongThings_105 : decode cX1_wrongThings 105 = .ok (.bipush 64, 2) := by decide +kernel
theorem dX1_wrongThings_107 : decode cX1_wrongThings 107 = .ok (.if_icmp .ge 18, 3) := by decide +kernel
theorem dX1_wrongThings_110 : decode cX1_wrongThings 110 = .ok (.aload_n 0, 1) := by decide +kernel
theorem dX1_wrongThings_111 : decode cX1_wrongThings 111 = .ok (.aload_n 0, 1) := by decide +kernel
theorem dX1_wrongThings_112 : decode cX1_wrongThings 112 = .ok (.iload_n 1, 1) := by decide +kernel
theorem dX1_wrongThings_113 : decode cX1_wrongThings 113 = .ok (.invokevirtual 68, 3) := by decide +kernel
theorem dX1_wrongThings_116 : decode cX1_wrongThings 116 = .ok (.invokevirtual 72, 3) := by decide +kernel
theorem dX1_wrongThings_119 : decode cX1_wrongThings 119 = .ok (.iinc 1 1, 3) := by decide +kernel
theorem dX1_wrongThings_122 : decode cX1_wrongThings 122 = .ok (.goto (-18), 3) := by decide +kernel
theorem dX1_wrongThings_125 : decode cX1_wrongThings 125 = .ok (.iconst 0, 1) := by decide +kernel
theorem dX1_wrongThings_126 : decode cX1_wrongThings 126 = .ok (.istore_n 1, 1) := by decide +kernel
theorem dX1_wrongThings_127 : decode cX1_wrongThings 127 = .ok (.iload_n 1, 1) := by decide +kernel
theorem dX1_wrongThings_128 : decode cX1_wrongThings 128 = .ok (.aload_n 0, 1) := by decide +kernel
theorem dX1_wrongThings_129 : decode cX1_wrongThings 129 = .ok (.getfield 33, 3) := by decide +kernel
theorem dX1_wrongThings_132 : decode cX1_wrongThings 132 = .ok (.arraylength, 1) := by decide +kernel
theorem dX1_wrongThings_133 : decode cX1_wrongThings 133 = .ok (.if_icmp .ge 73, 3) := by decide +kernel
theorem dX1_wrongThings_136 : decode cX1_wrongThings 136 = .ok (.aload_n 0, 1) := by decide +kernel
theorem dX1_wrongThings_137 : decode cX1_wrongThings 137 = .ok (.aload_n 0, 1) := by decide +kernel
theorem dX1_wrongThings_138 : decode cX1_wrongThings 138 = .ok (.getfield 33, 3) := by decide +kernel
theorem dX1_wrongThings_141 : decode cX1_wrongThings 141 = .ok (.iload_n 1, 1) := by decide +kernel
theorem dX1_wrongThings_142 : decode cX1_wrongThings 142 = .ok (.iaload, 1) := by decide +kernel
theorem dX1_wrongThings_143 : decode cX1_wrongThings 143 = .ok (.iconst 1, 1) := by decide +kernel
theorem dX1_wrongThings_144 : decode cX1_wrongThings 144 = .ok (.if_icmp .gt 7, 3) := by decide +kernel
theorem dX1_wrongThings_147 : decode cX1_wrongThings 147 = .ok (.iconst 1, 1) := by decide +kernel
theorem dX1_wrongThings_148 : decode cX1_wrongThings 148 = .ok (.goto 4, 3) := by decide +kernel
theorem dX1_wrongThings_151 : decode cX1_wrongThings 151 = .ok (.iconst 0, 1) := by decide +kernel
theorem dX1_wrongThings_152 : decode cX1_wrongThings 152 = .ok (.invokevirtual 72, 3) := by decide +kernel
theorem dX1_wrongThings_155 : decode cX1_wrongThings 155 = .ok (.aload_n 0, 1) := by decide +kernel
theorem dX1_wrongThings_156 : decode cX1_wrongThings 156 = .ok (.aload_n 0, 1) := by decide +kernel
theorem dX1_wrongThings_157 : decode cX1_wrongThings 157 = .ok (.getfield 19, 3) := by decide +kernel
theorem dX1_wrongThings_160 : decode cX1_wrongThings 160 = .ok (.iload_n 1, 1) := by decide +kernel
theorem dX1_wrongThings_161 : decode cX1_wrongThings 161 = .ok (.invokevirtual 76, 3) := by decide +kernel
theorem dX1_wrongThings_164 : decode cX1_wrongThings 164 = .ok (.iload_n 1, 1) := by decide +kernel
theorem dX1_wrongThings_165 : decode cX1_wrongThings 165 = .ok (.aload_n 0, 1) := by decide +kernel
theorem dX1_wrongThings_166 : decode cX1_wrongThings 166 = .ok (.getfield 19, 3) := by decide +kernel
theorem dX1_wrongThings_169 : decode cX1_wrongThings 169 = .ok (.getfield 81, 3) := by decide +kernel
theorem dX1_wrongThings_172 : decode cX1_wrongThings 172 = .ok (.if_icmp .lt 12, 3) := by decide +kernel
theorem dX1_wrongThings_175 : decode cX1_wrongThings 175 = .ok (.aload_n 0, 1) := by decide +kernel
theorem dX1_wrongThings_176 : decode cX1_wrongThings 176 = .ok (.getfield 33, 3) := by decide +kernel
theorem dX1_wrongThings_179 : decode cX1_wrongThings 179 = .ok (.iload_n 1, 1) := by decide +kernel
theorem dX1_wrongThings_180 : decode cX1_wrongThings 180 = .ok (.iaload, 1) := by decide +kernel
theorem dX1_wrongThings_181 : decode cX1_wrongThings 181 = .ok (.ifCond .le 7, 3) := by decide +kernel
theorem dX1_wrongThings_184 : decode cX1_wrongThings 184 = .ok (.iconst 1, 1) := by decide +kernel
theorem dX1_wrongThings_185 : decode cX1_wrongThings 185 = .ok (.goto 4, 3) := by decide +kernel
theorem dX1_wrongThings_188 : decode cX1_wrongThings 188 = .ok (.iconst 0, 1) := by decide +kernel
theorem dX1_wrongThings_189 : decode cX1_wrongThings 189 = .ok (.if_icmp .ne 7, 3) := by decide +kernel
theorem dX1_wrongThings_192 : decode cX1_wrongThings 192 = .ok (.iconst 1, 1) := by decide +kernel
theorem dX1_wrongThings_193 : decode cX1_wrongThings 193 = .ok (.goto 4, 3) := by decide +kernel
theorem dX1_wrongThings_196 : decode cX1_wrongThings 196 = .ok (.iconst 0, 1) := by decide +kernel
theorem dX1_wrongThings_197 : decode cX1_wrongThings 197 = .ok (.invokevirtual 72, 3) := by decide +kernel
theorem dX1_wrongThings_200 : decode cX1_wrongThings 200 = .ok (.iinc 1 1, 3) := by decide +kernel
theorem dX1_wrongThings_203 : decode cX1_wrongThings 203 = .ok (.goto (-76), 3) := by decide +kernel
theorem dX1_wrongThings_206 : decode cX1_wrongThings 206 = .ok (.aload_n 0, 1) := by decide +kernel
theorem dX1_wrongThings_207 : decode cX1_wrongThings 207 = .ok (.getfield 43, 3) := by decide +kernel
theorem dX1_wrongThings_210 : decode cX1_wrongThings 210 = .ok (.ireturn, 1) := by decide +kernel
theorem dX10_check_0 : decode cX10_check 0 = .ok (.aload_n 0, 1) := by decide +kernel
theorem dX10_check_1 : decode cX10_check 1 = .ok (.getfield 53, 3) := by decide +kernel
theorem dX10_check_4 : decode cX10_check 4 = .ok (.getfield 122, 3) := by decide +kernel
theorem dX10_check_7 : decode cX10_check 7 = .ok (.ifCond .eq 13, 3) := by decide +kernel
theorem dX10_check_10 : decode cX10_check 10 = .ok (.aload_n 0, 1) := by decide +kernel
theorem dX10_check_11 : decode cX10_check 11 = .ok (.getfield 109, 3) := by decide +kernel
theorem dX10_check_14 : decode cX10_check 14 = .ok (.invokevirtual 255, 3) := by decide +kernel
theorem dX10_check_17 : decode cX10_check 17 = .ok (.goto 5, 3) := by decide +kernel
theorem dX10_check_20 : decode cX10_check 20 = .ok (.bipush (-99), 2) := by decide +kernel
theorem dX10_check_22 : decode cX10_check 22 = .ok (.ireturn, 1) := by decide +kernel
theorem dX10_scrub_0 : decode cX10_scrub 0 = .ok (.aload_n 0, 1) := by decide +kernel
theorem dX10_scrub_1 : decode cX10_scrub 1 = .ok (.getfield 53, 3) := by decide +kernel
theorem dX10_scrub_4 : decode cX10_scrub 4 = .ok (.getfield 122, 3) := by decide +kernel
theorem dX10_scrub_7 : decode cX10_scrub 7 = .ok (.ifCond .ne 6, 3) := by decide +kernel
theorem dX10_scrub_10 : decode cX10_scrub 10 = .ok (.bipush (-99), 2) := by decide +kernel
theorem dX10_scrub_12 : decode cX10_scrub 12 = .ok (.ireturn, 1) := by decide +kernel
theorem dX10_scrub_13 : decode cX10_scrub 13 = .ok (.iconst 0, 1) := by decide +kernel
theorem dX10_scrub_14 : decode cX10_scrub 14 = .ok (.istore_n 1, 1) := by decide +kernel
theorem dX10_scrub_15 : decode cX10_scrub 15 = .ok (.iconst 0, 1) := by decide +kernel
theorem dX10_scrub_16 : decode cX10_scrub 16 = .ok (.istore_n 2, 1) := by decide +kernel
theorem dX10_scrub_17 : decode cX10_scrub 17 = .ok (.iload_n 2, 1) := by decide +kernel
theorem dX10_scrub_18 : decode cX10_scrub 18 = .ok (.aload_n 0, 1) := by decide +kernel
theorem dX10_scrub_19 : decode cX10_scrub 19 = .ok (.getfield 53, 3) := by decide +kernel
theorem dX10_scrub_22 : decode cX10_scrub 22 = .ok (.getfield 259, 3) := by decide +kernel
theorem dX10_scrub_25 : decode cX10_scrub 25 = .ok (.if_icmp .ge 32, 3) := by decide +kernel
theorem dX10_scrub_28 : decode cX10_scrub 28 = .ok (.aload_n 0, 1) := by decide +kernel
theorem dX10_scrub_29 : decode cX10_scrub 29 = .ok (.getfield 67, 3) := by decide +kernel
theorem dX10_scrub_32 : decode cX10_scrub 32 = .ok (.iload_n 2, 1) := by decide +kernel
theorem dX10_scrub_33 : decode cX10_scrub 33 = .ok (.invokevirtual 262, 3) := by decide +kernel
theorem dX10_scrub_36 : decode cX10_scrub 36 = .ok (.ifCond .ne 15, 3) := by decide +kernel
theorem dX10_scrub_39 : decode cX10_scrub 39 = .ok (.aload_n 0, 1) := by decide +kernel
theorem dX10_scrub_40 : decode cX10_scrub 40 = .ok (.getfield 59, 3) := by decide +kernel
theorem dX10_scrub_43 : decode cX10_scrub 43 = .ok (.iload_n 2, 1) := by decide +kernel
theorem dX10_scrub_44 : decode cX10_scrub 44 = .ok (.invokevirtual 265, 3) := by decide +kernel
theorem dX10_scrub_47 : decode cX10_scrub 47 = .ok (.pop, 1) := by decide +kernel
theorem dX10_scrub_48 : decode cX10_scrub 48 = .ok (.iinc 1 1, 3) := by decide +kernel
theorem dX10_scrub_51 : decode cX10_scrub 51 = .ok (.iinc 2 1, 3) := by decide +kernel
theorem dX10_scrub_54 : decode cX10_scrub 54 = .ok (.goto (-37), 3) := by decide +kernel
theorem dX10_scrub_57 : decode cX10_scrub 57 = .ok (.iload_n 1, 1) := by decide +kernel
theorem dX10_scrub_58 : decode cX10_scrub 58 = .ok (.ireturn, 1) := by decide +kernel
theorem dX10_sync_0 : decode cX10_sync 0 = .ok (.aload_n 0, 1) := by decide +kernel
theorem dX10_sync_1 : decode cX10_sync 1 = .ok (.getfield 63, 3) := by decide +kernel
theorem dX10_sync_4 : decode cX10_sync 4 = .ok (.getfield 268, 3) := by decide +kernel
theorem dX10_sync_7 : decode cX10_sync 7 = .ok (.istore_n 1, 1) := by decide +kernel
theorem dX10_sync_8 : decode cX10_sync 8 = .ok (.aload_n 0, 1) := by decide +kernel
theorem dX10_sync_9 : decode cX10_sync 9 = .ok (.getfield 63, 3) := by decide +kernel
theorem dX10_sync_12 : decode cX10_sync 12 = .ok (.iconst 0, 1) := by decide +kernel
theorem dX10_sync_13 : decode cX10_sync 13 = .ok (.invokevirtual 126, 3) := by decide +kernel
theorem dX10_sync_16 : decode cX10_sync 16 = .ok (.ifCond .eq 7, 3) := by decide +kernel
theorem dX10_sync_19 : decode cX10_sync 19 = .ok (.iload_n 1, 1) := by decide +kernel
theorem dX10_sync_20 : decode cX10_sync 20 = .ok (.goto 5, 3) := by decide +kernel
theorem dX10_sync_23 : decode cX10_sync 23 = .ok (.bipush (-99), 2) := by decide +kernel
theorem dX10_sync_25 : decode cX10_sync 25 = .ok (.ireturn, 1) := by decide +kernel
theorem dX10_clean_0 : decode cX10_clean 0 = .ok (.aload_n 0, 1) := by decide +kernel
theorem dX10_clean_1 : decode cX10_clean 1 = .ok (.getfield 53, 3) := by decide +kernel
theorem dX10_clean_4 : decode cX10_clean 4 = .ok (.getfield 122, 3) := by decide +kernel
theorem dX10_clean_7 : decode cX10_clean 7 = .ok (.ifCond .eq 13, 3) := by decide +kernel
theorem dX10_clean_10 : decode cX10_clean 10 = .ok (.aload_n 0, 1) := by decide +kernel
theorem dX10_clean_11 : decode cX10_clean 11 = .ok (.getfield 59, 3) := by decide +kernel
theorem dX10_clean_14 : decode cX10_clean 14 = .ok (.invokevirtual 271, 3) := by decide +kernel
theorem dX10_clean_17 : decode cX10_clean 17 = .ok (.goto 5, 3) := by decide +kernel
theorem dX10_clean_20 : decode cX10_clean 20 = .ok (.bipush (-99), 2) := by decide +kernel
theorem dX10_clean_22 : decode cX10_clean 22 = .ok (.ireturn, 1) := by decide +kernel
theorem dX10_power_0 : decode cX10_power 0 = .ok (.aload_n 0, 1) := by decide +kernel
theorem dX10_power_1 : decode cX10_power 1 = .ok (.getfield 53, 3) := by decide +kernel
theorem dX10_power_4 : decode cX10_power 4 = .ok (.iload_n 1, 1) := by decide +kernel
theorem dX10_power_5 : decode cX10_power 5 = .ok (.iconst (-1), 1) := by decide +kernel
theorem dX10_power_6 : decode cX10_power 6 = .ok (.invokestatic 274, 3) := by decide +kernel
theorem dX10_power_9 : decode cX10_power 9 = .ok (.putfield 279, 3) := by decide +kernel
theorem dX10_power_12 : decode cX10_power 12 = .ok (.aload_n 0, 1) := by decide +kernel
theorem dX10_power_13 : decode cX10_power 13 = .ok (.getfield 53, 3) := by decide +kernel
theorem dX10_power_16 : decode cX10_power 16 = .ok (.getfield 122, 3) := by decide +kernel
theorem dX10_power_19 : decode cX10_power 19 = .ok (.ireturn, 1) := by decide +kernel
theorem dX2_writes_0 : decode cX2_writes 0 = .ok (.aload_n 0, 1) := by decide +kernel
theorem dX2_writes_1 : decode cX2_writes 1 = .ok (.getfield 56, 3) := by decide +kernel
theorem dX2_writes_4 : decode cX2_writes 4 = .ok (.aload_n 0, 1) := by decide +kernel
theorem dX2_writes_5 : decode cX2_writes 5 = .ok (.getfield 59, 3) := by decide +kernel
theorem dX2_writes_8 : decode cX2_writes 8 = .ok (.iadd, 1) := by decide +kernel
theorem dX2_writes_9 : decode cX2_writes 9 = .ok (.aload_n 0, 1) := by decide +kernel
theorem dX2_writes_10 : decode cX2_writes 10 = .ok (.getfield 62, 3) := by decide +kernel
theorem dX2_writes_13 : decode cX2_writes 13 = .ok (.iadd, 1) := by decide +kernel
theorem dX2_writes_14 : decode cX2_writes 14 = .ok (.aload_n 0, 1) := by decide +kernel
theorem dX2_writes_15 : decode cX2_writes 15 = .ok (.getfield 65, 3) := by decide +kernel
theorem dX2_writes_18 : decode cX2_writes 18 = .ok (.iadd, 1) := by decide +kernel
theorem dX2_writes_19 : decode cX2_writes 19 = .ok (.ireturn, 1) := by decide +kernel
theorem dX8_recover_0 : decode cX8_recover 0 = .ok (.aload_n 0, 1) := by decide +kernel
theorem dX8_recover_1 : decode cX8_recover 1 = .ok (.iconst 0, 1) := by decide +kernel
theorem dX8_recover_2 : decode cX8_recover 2 = .ok (.putfield 103, 3) := by decide +kernel
theorem dX8_recover_5 : decode cX8_recover 5 = .ok (.aload_n 0, 1) := by decide +kernel
theorem dX8_recover_6 : decode cX8_recover 6 = .ok (.getfield 82, 3) := by decide +kernel
theorem dX8_recover_9 : decode cX8_recover 9 = .ok (.ifCond .ne 8, 3) := by decide +kernel
theorem dX8_recover_12 : decode cX8_recover 12 = .ok (.aload_n 0, 1) := by decide +kernel
theorem dX8_recover_13 : decode cX8_recover 13 = .ok (.iconst (-1), 1) := by decide +kernel
theorem dX8_recover_14 : decode cX8_recover 14 = .ok (.putfield 59, 3) := by decide +kernel
theorem dX8_recover_17 : decode cX8_recover 17 = .ok (.aload_n 0, 1) := by decide +kernel
theorem dX8_recover_18 : decode cX8_recover 18 = .ok (.getfield 59, 3) := by decide +kernel
theorem dX8_recover_21 : decode cX8_recover 21 = .ok (.iconst (-1), 1) := by decide +kernel
theorem dX8_recover_22 : decode cX8_recover 22 = .ok (.if_icmp .eq 40, 3) := by decide +kernel
theorem dX8_recover_25 : decode cX8_recover 25 = .ok (.iconst 0, 1) := by decide +kernel
theorem dX8_recover_26 : decode cX8_recover 26 = .ok (.istore_n 1, 1) := by decide +kernel
theorem dX8_recover_27 : decode cX8_recover 27 = .ok (.iload_n 1, 1) := by decide +kernel
theorem dX8_recover_28 : decode cX8_recover 28 = .ok (.aload_n 0, 1) := by decide +kernel
theorem dX8_recover_29 : decode cX8_recover 29 = .ok (.getfield 9, 3) := by decide +kernel
theorem dX8_recover_32 : decode cX8_recover 32 = .ok (.getfield 106, 3) := by decide +kernel
theorem dX8_recover_35 : decode cX8_recover 35 = .ok (.if_icmp .ge 18, 3) := by decide +kernel
theorem dX8_recover_38 : decode cX8_recover 38 = .ok (.aload_n 0, 1) := by decide +kernel
theorem dX8_recover_39 : decode cX8_recover 39 = .ok (.invokevirtual 125, 3) := by decide +kernel
theorem dX8_recover_42 : decode cX8_recover 42 = .ok (.ifCond .ne 5, 3) := by decide +kernel
theorem dX8_recover_45 : decode cX8_recover 45 = .ok (.iconst 0, 1) := by decide +kernel
theorem dX8_recover_46 : decode cX8_recover 46 = .ok (.ireturn, 1) := by decide +kernel
theorem dX8_recover_47 : decode cX8_recover 47 = .ok (.iinc 1 1, 3) := by decide +kernel
theorem dX8_recover_50 : decode cX8_recover 50 = .ok (.goto (-23), 3) := by decide +kernel
theorem dX8_recover_53 : decode cX8_recover 53 = .ok (.aload_n 0, 1) := by decide +kernel
theorem dX8_recover_54 : decode cX8_recover 54 = .ok (.invokevirtual 128, 3) := by decide +kernel
theorem dX8_recover_57 : decode cX8_recover 57 = .ok (.ifCond .ne 5, 3) := by decide +kernel
theorem dX8_recover_60 : decode cX8_recover 60 = .ok (.iconst 0, 1) := by decide +kernel
theorem dX8_recover_61 : decode cX8_recover 61 = .ok (.ireturn, 1) := by decide +kernel
theorem dX8_recover_62 : decode cX8_recover 62 = .ok (.aload_n 0, 1) := by decide +kernel
theorem dX8_recover_63 : decode cX8_recover 63 = .ok (.getfield 62, 3) := by decide +kernel
theorem dX8_recover_66 : decode cX8_recover 66 = .ok (.iconst (-1), 1) := by decide +kernel
theorem dX8_recover_67 : decode cX8_recover 67 = .ok (.if_icmp .eq 21, 3) := by decide +kernel
theorem dX8_recover_70 : decode cX8_recover 70 = .ok (.aload_n 0, 1) := by decide +kernel
theorem dX8_recover_71 : decode cX8_recover 71 = .ok (.aload_n 0, 1) := by decide +kernel
theorem dX8_recover_72 : decode cX8_recover 72 = .ok (.getfield 49, 3) := by decide +kernel
theorem dX8_recover_75 : decode cX8_recover 75 = .ok (.invokevirtual 150, 3) := by decide +kernel
theorem dX8_recover_78 : decode cX8_recover 78 = .ok (.ifCond .eq 14, 3) := by decide +kernel
theorem dX8_recover_81 : decode cX8_recover 81 = .ok (.aload_n 0, 1) := by decide +kernel
theorem dX8_recover_82 : decode cX8_recover 82 = .ok (.invokevirtual 153, 3) := by decide +kernel
theorem dX8_recover_85 : decode cX8_recover 85 = .ok (.ifCond .eq 7, 3) := by decide +kernel
theorem dX8_recover_88 : decode cX8_recover 88 = .ok (.iconst 1, 1) := by decide +kernel
theorem dX8_recover_89 : decode cX8_recover 89 = .ok (.goto 4, 3) := by decide +kernel
theorem dX8_recover_92 : decode cX8_recover 92 = .ok (.iconst 0, 1) := by decide +kernel
theorem dX8_recover_93 : decode cX8_recover 93 = .ok (.ireturn, 1) := by decide +kernel
theorem dX6_writeToldAgain_0 : decode cX6_writeToldAgain 0 = .ok (.aload_n 0, 1) := by decide +kernel
theorem dX6_writeToldAgain_1 : decode cX6_writeToldAgain 1 = .ok (.iconst 0, 1) := by decide +kernel
theorem dX6_writeToldAgain_2 : decode cX6_writeToldAgain 2 = .ok (.bipush 6, 2) := by decide +kernel
theorem dX6_writeToldAgain_4 : decode cX6_writeToldAgain 4 = .ok (.invokevirtual 58, 3) := by decide +kernel
theorem dX6_writeToldAgain_7 : decode cX6_writeToldAgain 7 = .ok (.l2i, 1) := by decide +kernel
theorem dX6_writeToldAgain_8 : decode cX6_writeToldAgain 8 = .ok (.istore_n 1, 1) := by decide +kernel
theorem dX6_writeToldAgain_9 : decode cX6_writeToldAgain 9 = .ok (.iload_n 1, 1) := by decide +kernel
theorem dX6_writeToldAgain_10 : decode cX6_writeToldAgain 10 = .ok (.bipush 24, 2) := by decide +kernel
theorem dX6_writeToldAgain_12 : decode cX6_writeToldAgain 12 = .ok (.iadd, 1) := by decide +kernel
theorem dX6_writeToldAgain_13 : decode cX6_writeToldAgain 13 = .ok (.iconst 1, 1) := by decide +kernel
theorem dX6_writeToldAgain_14 : decode cX6_writeToldAgain 14 = .ok (.isub, 1) := by decide +kernel
theorem dX6_writeToldAgain_15 : decode cX6_writeToldAgain 15 = .ok (.bipush 24, 2) := by decide +kernel
theorem dX6_writeToldAgain_17 : decode cX6_writeToldAgain 17 = .ok (.idiv, 1) := by decide +kernel
theorem dX6_writeToldAgain_18 : decode cX6_writeToldAgain 18 = .ok (.istore_n 2, 1) := by decide +kernel
theorem dX6_writeToldAgain_19 : decode cX6_writeToldAgain 19 = .ok (.iconst 0, 1) := by decide +kernel
theorem dX6_writeToldAgain_20 : decode cX6_writeToldAgain 20 = .ok (.istore_n 3, 1) := by decide +kernel
theorem dX6_writeToldAgain_21 : decode cX6_writeToldAgain 21 = .ok (.iload_n 3, 1) := by decide +kernel
theorem dX6_writeToldAgain_22 : decode cX6_writeToldAgain 22 = .ok (.iload_n 1, 1) := by decide +kernel
theorem dX6_writeToldAgain_23 : decode cX6_writeToldAgain 23 = .ok (.if_icmp .ge 95, 3) := by decide +kernel
theorem dX6_writeToldAgain_26 : decode cX6_writeToldAgain 26 = .ok (.iload_n 2, 1) := by decide +kernel
theorem dX6_writeToldAgain_27 : decode cX6_writeToldAgain 27 = .ok (.iload_n 3, 1) := by decide +kernel
theorem dX6_writeToldAgain_28 : decode cX6_writeToldAgain 28 = .ok (.iadd, 1) := by decide +kernel
theorem dX6_writeToldAgain_29 : decode cX6_writeToldAgain 29 = .ok (.bipush 80, 2) := by decide +kernel
theorem dX6_writeToldAgain_31 : decode cX6_writeToldAgain 31 = .ok (.if_icmp .ge 87, 3) := by decide +kernel
theorem dX6_writeToldAgain_34 : decode cX6_writeToldAgain 34 = .ok (.iload_n 3, 1) := by decide +kernel
theorem dX6_writeToldAgain_35 : decode cX6_writeToldAgain 35 = .ok (.bipush 24, 2) := by decide +kernel
theorem dX6_writeToldAgain_37 : decode cX6_writeToldAgain 37 = .ok (.irem, 1) := by decide +kernel
theorem dX6_writeToldAgain_38 : decode cX6_writeToldAgain 38 = .ok (.istore 4, 2) := by decide +kernel
theorem dX6_writeToldAgain_40 : decode cX6_writeToldAgain 40 = .ok (.aload_n 0, 1) := by decide +kernel
theorem dX6_writeToldAgain_41 : decode cX6_writeToldAgain 41 = .ok (.iload_n 3, 1) := by decide +kernel
theorem dX6_writeToldAgain_42 : decode cX6_writeToldAgain 42 = .ok (.bipush 24, 2) := by decide +kernel
theorem dX6_writeToldAgain_44 : decode cX6_writeToldAgain 44 = .ok (.idiv, 1) := by decide +kernel
theorem dX6_writeToldAgain_45 : decode cX6_writeToldAgain 45 = .ok (.iload 4, 2) := by decide +kernel
theorem dX6_writeToldAgain_47 : decode cX6_writeToldAgain 47 = .ok (.iconst 4, 1) := by decide +kernel
theorem dX6_writeToldAgain_48 : decode cX6_writeToldAgain 48 = .ok (.idiv, 1) := by decide +kernel
theorem dX6_writeToldAgain_49 : decode cX6_writeToldAgain 49 = .ok (.invokevirtual 58, 3) := by decide +kernel
theorem dX6_writeToldAgain_52 : decode cX6_writeToldAgain 52 = .ok (.bipush 16, 2) := by decide +kernel
theorem dX6_writeToldAgain_54 : decode cX6_writeToldAgain 54 = .ok (.iload 4, 2) := by decide +kernel
theorem dX6_writeToldAgain_56 : decode cX6_writeToldAgain 56 = .ok (.iconst 4, 1) := by decide +kernel
theorem dX6_writeToldAgain_57 : decode cX6_writeToldAgain 57 = .ok (.irem, 1) := by decide +kernel
theorem dX6_writeToldAgain_58 : decode cX6_writeToldAgain 58 = .ok (.imul, 1) := by decide +kernel
theorem dX6_writeToldAgain_59 : decode cX6_writeToldAgain 59 = .ok (.lushr, 1) := by decide +kernel
theorem dX6_writeToldAgain_60 : decode cX6_writeToldAgain 60 = .ok (.l2i, 1) := by decide +kernel
theorem dX6_writeToldAgain_61 : decode cX6_writeToldAgain 61 = .ok (.ldc 62, 2) := by decide +kernel
theorem dX6_writeToldAgain_63 : decode cX6_writeToldAgain 63 = .ok (.iand, 1) := by decide +kernel
theorem dX6_writeToldAgain_64 : decode cX6_writeToldAgain 64 = .ok (.istore 5, 2) := by decide +kernel
theorem dX6_writeToldAgain_66 : decode cX6_writeToldAgain 66 = .ok (.aload_n 0, 1) := by decide +kernel
theorem dX6_writeToldAgain_67 : decode cX6_writeToldAgain 67 = .ok (.getfield 9, 3) := by decide +kernel
theorem dX6_writeToldAgain_70 : decode cX6_writeToldAgain 70 = .ok (.getfield 40, 3) := by decide +kernel
theorem dX6_writeToldAgain_73 : decode cX6_writeToldAgain 73 = .ok (.aload_n 0, 1) := by decide +kernel
theorem dX6_writeToldAgain_74 : decode cX6_writeToldAgain 74 = .ok (.getfield 15, 3) := by decide +kernel
theorem dX6_writeToldAgain_77 : decode cX6_writeToldAgain 77 = .ok (.iload_n 2, 1) := by decide +kernel
theorem dX6_writeToldAgain_78 : decode cX6_writeToldAgain 78 = .ok (.iload_n 3, 1) := by decide +kernel
theorem dX6_writeToldAgain_79 : decode cX6_writeToldAgain 79 = .ok (.iadd, 1) := by decide +kernel
theorem dX6_writeToldAgain_80 : decode cX6_writeToldAgain 80 = .ok (.invokevirtual 43, 3) := by decide +kernel
theorem dX6_writeToldAgain_83 : decode cX6_writeToldAgain 83 = .ok (.aload_n 0, 1) := by decide +kernel
theorem dX6_writeToldAgain_84 : decode cX6_writeToldAgain 84 = .ok (.getfield 37, 3) := by decide +kernel
theorem dX6_writeToldAgain_87 : decode cX6_writeToldAgain 87 = .ok (.iconst 0, 1) := by decide +kernel
theorem dX6_writeToldAgain_88 : decode cX6_writeToldAgain 88 = .ok (.bipush 8, 2) := by decide +kernel
theorem dX6_writeToldAgain_90 : decode cX6_writeToldAgain 90 = .ok (.invokestatic 49, 3) := by decide +kernel
theorem dX6_writeToldAgain_93 : decode cX6_writeToldAgain 93 = .ok (.aload_n 0, 1) := by decide +kernel
theorem dX6_writeToldAgain_94 : decode cX6_writeToldAgain 94 = .ok (.getfield 15, 3) := by decide +kernel
theorem dX6_writeToldAgain_97 : decode cX6_writeToldAgain 97 = .ok (.iload 5, 2) := by decide +kernel
theorem dX6_writeToldAgain_99 : decode cX6_writeToldAgain 99 = .ok (.aload_n 0, 1) := by decide +kernel
theorem dX6_writeToldAgain_100 : decode cX6_writeToldAgain 100 = .ok (.getfield 37, 3) := by decide +kernel
theorem dX6_writeToldAgain_103 : decode cX6_writeToldAgain 103 = .ok (.iconst 0, 1) := by decide +kernel
theorem dX6_writeToldAgain_104 : decode cX6_writeToldAgain 104 = .ok (.invokevirtual 87, 3) := by decide +kernel
theorem dX6_writeToldAgain_107 : decode cX6_writeToldAgain 107 = .ok (.ifCond .ne 5, 3) := by decide +kernel
theorem dX6_writeToldAgain_110 : decode cX6_writeToldAgain 110 = .ok (.iconst 0, 1) := by decide +kernel
theorem dX6_writeToldAgain_111 : decode cX6_writeToldAgain 111 = .ok (.ireturn, 1) := by decide +kernel
theorem dX6_writeToldAgain_112 : decode cX6_writeToldAgain 112 = .ok (.iinc 3 1, 3) := by decide +kernel
theorem dX6_writeToldAgain_115 : decode cX6_writeToldAgain 115 = .ok (.goto (-94), 3) := by decide +kernel
theorem dX6_writeToldAgain_118 : decode cX6_writeToldAgain 118 = .ok (.iconst 1, 1) := by decide +kernel
theorem dX6_writeToldAgain_119 : decode cX6_writeToldAgain 119 = .ok (.ireturn, 1) := by decide +kernel
theorem dX6_comeBack_0 : decode cX6_comeBack 0 = .ok (.aload_n 0, 1) := by decide +kernel
theorem dX6_comeBack_1 : decode cX6_comeBack 1 = .ok (.getfield 9, 3) := by decide +kernel
theorem dX6_comeBack_4 : decode cX6_comeBack 4 = .ok (.iconst 1, 1) := by decide +kernel
theorem dX6_comeBack_5 : decode cX6_comeBack 5 = .ok (.putfield 73, 3) := by decide +kernel
theorem dX6_comeBack_8 : decode cX6_comeBack 8 = .ok (.aload_n 0, 1) := by decide +kernel
theorem dX6_comeBack_9 : decode cX6_comeBack 9 = .ok (.invokevirtual 91, 3) := by decide +kernel
theorem dX6_comeBack_12 : decode cX6_comeBack 12 = .ok (.aload_n 0, 1) := by decide +kernel
theorem dX6_comeBack_13 : decode cX6_comeBack 13 = .ok (.getfield 15, 3) := by decide +kernel
theorem dX6_comeBack_16 : decode cX6_comeBack 16 = .ok (.invokevirtual 104, 3) := by decide +kernel
theorem dX6_comeBack_19 : decode cX6_comeBack 19 = .ok (.ifCond .eq 21, 3) := by decide +kernel
theorem dX6_comeBack_22 : decode cX6_comeBack 22 = .ok (.aload_n 0, 1) := by decide +kernel
theorem dX6_comeBack_23 : decode cX6_comeBack 23 = .ok (.getfield 81, 3) := by decide +kernel
theorem dX6_comeBack_26 : decode cX6_comeBack 26 = .ok (.ifCond .eq 10, 3) := by decide +kernel
theorem dX6_comeBack_29 : decode cX6_comeBack 29 = .ok (.aload_n 0, 1) := by decide +kernel
theorem dX6_comeBack_30 : decode cX6_comeBack 30 = .ok (.invokevirtual 108, 3) := by decide +kernel
theorem dX6_comeBack_33 : decode cX6_comeBack 33 = .ok (.ifCond .eq 7, 3) := by decide +kernel
theorem dX6_comeBack_36 : decode cX6_comeBack 36 = .ok (.iconst 1, 1) := by decide +kernel
theorem dX6_comeBack_37 : decode cX6_comeBack 37 = .ok (.goto 4, 3) := by decide +kernel
theorem dX6_comeBack_40 : decode cX6_comeBack 40 = .ok (.iconst 0, 1) := by decide +kernel
theorem dX6_comeBack_41 : decode cX6_comeBack 41 = .ok (.ireturn, 1) := by decide +kernel
theorem dX10_restore_0 : decode cX10_restore 0 = .ok (.aload_n 0, 1) := by decide +kernel
theorem dX10_restore_1 : decode cX10_restore 1 = .ok (.getfield 53, 3) := by decide +kernel
theorem dX10_restore_4 : decode cX10_restore 4 = .ok (.invokevirtual 282, 3) := by decide +kernel
theorem dX10_restore_7 : decode cX10_restore 7 = .ok (.istore_n 1, 1) := by decide +kernel
theorem dX10_restore_8 : decode cX10_restore 8 = .ok (.aload_n 0, 1) := by decide +kernel
theorem dX10_restore_9 : decode cX10_restore 9 = .ok (.getfield 63, 3) := by decide +kernel
theorem dX10_restore_12 : decode cX10_restore 12 = .ok (.invokevirtual 285, 3) := by decide +kernel
theorem dX10_restore_15 : decode cX10_restore 15 = .ok (.ifCond .eq 15, 3) := by decide +kernel
theorem dX10_restore_18 : decode cX10_restore 18 = .ok (.aload_n 0, 1) := by decide +kernel
theorem dX10_restore_19 : decode cX10_restore 19 = .ok (.getfield 53, 3) := by decide +kernel
theorem dX10_restore_22 : decode cX10_restore 22 = .ok (.invokevirtual 282, 3) := by decide +kernel
theorem dX10_restore_25 : decode cX10_restore 25 = .ok (.iload_n 1, 1) := by decide +kernel
theorem dX10_restore_26 : decode cX10_restore 26 = .ok (.isub, 1) := by decide +kernel
theorem dX10_restore_27 : decode cX10_restore 27 = .ok (.goto 5, 3) := by decide +kernel
theorem dX10_restore_30 : decode cX10_restore 30 = .ok (.bipush (-99), 2) := by decide +kernel
theorem dX10_restore_32 : decode cX10_restore 32 = .ok (.ireturn, 1) := by decide +kernel
theorem dX8_liveEntryOf_0 : decode cX8_liveEntryOf 0 = .ok (.iload_n 1, 1) := by decide +kernel
theorem dX8_liveEntryOf_1 : decode cX8_liveEntryOf 1 = .ok (.ifCond .lt 12, 3) := by decide +kernel
theorem dX8_liveEntryOf_4 : decode cX8_liveEntryOf 4 = .ok (.iload_n 1, 1) := by decide +kernel
theorem dX8_liveEntryOf_5 : decode cX8_liveEntryOf 5 = .ok (.aload_n 0, 1) := by decide +kernel
theorem dX8_liveEntryOf_6 : decode cX8_liveEntryOf 6 = .ok (.getfield 37, 3) := by decide +kernel
theorem dX8_liveEntryOf_9 : decode cX8_liveEntryOf 9 = .ok (.arraylength, 1) := by decide +kernel
theorem dX8_liveEntryOf_10 : decode cX8_liveEntryOf 10 = .ok (.if_icmp .lt 5, 3) := by decide +kernel
theorem dX8_liveEntryOf_13 : decode cX8_liveEntryOf 13 = .ok (.iconst (-1), 1) := by decide +kernel
theorem dX8_liveEntryOf_14 : decode cX8_liveEntryOf 14 = .ok (.ireturn, 1) := by decide +kernel
theorem dX8_liveEntryOf_15 : decode cX8_liveEntryOf 15 = .ok (.aload_n 0, 1) := by decide +kernel
theorem dX8_liveEntryOf_16 : decode cX8_liveEntryOf 16 = .ok (.getfield 37, 3) := by decide +kernel
theorem dX8_liveEntryOf_19 : decode cX8_liveEntryOf 19 = .ok (.iload_n 1, 1) := by decide +kernel
theorem dX8_liveEntryOf_20 : decode cX8_liveEntryOf 20 = .ok (.iaload, 1) := by decide +kernel
theorem dX8_liveEntryOf_21 : decode cX8_liveEntryOf 21 = .ok (.istore_n 2, 1) := by decide +kernel
theorem dX8_liveEntryOf_22 : decode cX8_liveEntryOf 22 = .ok (.iload_n 1, 1) := by decide +kernel
theorem dX8_liveEntryOf_23 : decode cX8_liveEntryOf 23 = .ok (.aload_n 0, 1) := by decide +kernel
theorem dX8_liveEntryOf_24 : decode cX8_liveEntryOf 24 = .ok (.getfield 9, 3) := by decide +kernel
theorem dX8_liveEntryOf_27 : decode cX8_liveEntryOf 27 = .ok (.getfield 71, 3) := by decide +kernel
theorem dX8_liveEntryOf_30 : decode cX8_liveEntryOf 30 = .ok (.idiv, 1) := by decide +kernel
theorem dX8_liveEntryOf_31 : decode cX8_liveEntryOf 31 = .ok (.istore_n 3, 1) := by decide +kernel
theorem dX8_liveEntryOf_32 : decode cX8_liveEntryOf 32 = .ok (.iload_n 2, 1) := by decide +kernel
theorem dX8_liveEntryOf_33 : decode cX8_liveEntryOf 33 = .ok (.aload_n 0, 1) := by decide +kernel
theorem dX8_liveEntryOf_34 : decode cX8_liveEntryOf 34 = .ok (.getfield 68, 3) := by decide +kernel
theorem dX8_liveEntryOf_37 : decode cX8_liveEntryOf 37 = .ok (.if_icmp .lt 26, 3) := by decide +kernel
theorem dX8_liveEntryOf_40 : decode cX8_liveEntryOf 40 = .ok (.iload_n 3, 1) := by decide +kernel
theorem dX8_liveEntryOf_41 : decode cX8_liveEntryOf 41 = .ok (.aload_n 0, 1) := by decide +kernel
theorem dX8_liveEntryOf_42 : decode cX8_liveEntryOf 42 = .ok (.getfield 21, 3) := by decide +kernel
theorem dX8_liveEntryOf_45 : decode cX8_liveEntryOf 45 = .ok (.arraylength, 1) := by decide +kernel
theorem dX8_liveEntryOf_46 : decode cX8_liveEntryOf 46 = .ok (.if_icmp .ge 17, 3) := by decide +kernel
theorem dX8_liveEntryOf_49 : decode cX8_liveEntryOf 49 = .ok (.iload_n 2, 1) := by decide +kernel
theorem dX8_liveEntryOf_50 : decode cX8_liveEntryOf 50 = .ok (.aload_n 0, 1) := by decide +kernel
theorem dX8_liveEntryOf_51 : decode cX8_liveEntryOf 51 = .ok (.getfield 21, 3) := by decide +kernel
theorem dX8_liveEntryOf_54 : decode cX8_liveEntryOf 54 = .ok (.iload_n 3, 1) := by decide +kernel
theorem dX8_liveEntryOf_55 : decode cX8_liveEntryOf 55 = .ok (.iaload, 1) := by decide +kernel
theorem dX8_liveEntryOf_56 : decode cX8_liveEntryOf 56 = .ok (.if_icmp .lt 7, 3) := by decide +kernel
theorem dX8_liveEntryOf_59 : decode cX8_liveEntryOf 59 = .ok (.iload_n 2, 1) := by decide +kernel
theorem dX8_liveEntryOf_60 : decode cX8_liveEntryOf 60 = .ok (.goto 4, 3) := by decide +kernel
theorem dX8_liveEntryOf_63 : decode cX8_liveEntryOf 63 = .ok (.iconst (-1), 1) := by decide +kernel
theorem dX8_liveEntryOf_64 : decode cX8_liveEntryOf 64 = .ok (.ireturn, 1) := by decide +kernel
theorem dX10_where_0 : decode cX10_where 0 = .ok (.aload_n 0, 1) := by decide +kernel
theorem dX10_where_1 : decode cX10_where 1 = .ok (.getfield 53, 3) := by decide +kernel
theorem dX10_where_4 : decode cX10_where 4 = .ok (.getfield 122, 3) := by decide +kernel
theorem dX10_where_7 : decode cX10_where 7 = .ok (.ifCond .ne 6, 3) := by decide +kernel
theorem dX10_where_10 : decode cX10_where 10 = .ok (.bipush (-99), 2) := by decide +kernel
theorem dX10_where_12 : decode cX10_where 12 = .ok (.ireturn, 1) := by decide +kernel
theorem dX10_where_13 : decode cX10_where 13 = .ok (.iload_n 1, 1) := by decide +kernel
theorem dX10_where_14 : decode cX10_where 14 = .ok (.ifCond .lt 14, 3) := by decide +kernel
theorem dX10_where_17 : decode cX10_where 17 = .ok (.iload_n 1, 1) := by decide +kernel
theorem dX10_where_18 : decode cX10_where 18 = .ok (.aload_n 0, 1) := by decide +kernel
theorem dX10_where_19 : decode cX10_where 19 = .ok (.getfield 53, 3) := by decide +kernel
theorem dX10_where_22 : decode cX10_where 22 = .ok (.getfield 259, 3) := by decide +kernel
theorem dX10_where_25 : decode cX10_where 25 = .ok (.if_icmp .lt 8, 3) := by decide +kernel
theorem dX10_where_28 : decode cX10_where 28 = .ok (.bipush (-15), 2) := by decide +kernel
theorem dX10_where_30 : decode cX10_where 30 = .ok (.goto 11, 3) := by decide +kernel
theorem dX10_where_33 : decode cX10_where 33 = .ok (.aload_n 0, 1) := by decide +kernel
theorem dX10_where_34 : decode cX10_where 34 = .ok (.getfield 59, 3) := by decide +kernel
theorem dX10_where_37 : decode cX10_where 37 = .ok (.iload_n 1, 1) := by decide +kernel
theorem dX10_where_38 : decode cX10_where 38 = .ok (.invokevirtual 289, 3) := by decide +kernel
theorem dX10_where_41 : decode cX10_where 41 = .ok (.ireturn, 1) := by decide +kernel
theorem dX10_mark_0 : decode cX10_mark 0 = .ok (.aload_n 0, 1) := by decide +kernel
theorem dX10_mark_1 : decode cX10_mark 1 = .ok (.getfield 53, 3) := by decide +kernel
theorem dX10_mark_4 : decode cX10_mark 4 = .ok (.getfield 122, 3) := by decide +kernel
theorem dX10_mark_7 : decode cX10_mark 7 = .ok (.ifCond .ne 6, 3) := by decide +kernel
theorem dX10_mark_10 : decode cX10_mark 10 = .ok (.bipush (-99), 2) := by decide +kernel
theorem dX10_mark_12 : decode cX10_mark 12 = .ok (.ireturn, 1) := by decide +kernel
theorem dX10_mark_13 : decode cX10_mark 13 = .ok (.iload_n 1, 1) := by decide +kernel
theorem dX10_mark_14 : decode cX10_mark 14 = .ok (.ifCond .lt 15, 3) := by decide +kernel
theorem dX10_mark_17 : decode cX10_mark 17 = .ok (.iload_n 1, 1) := by decide +kernel
theorem dX10_mark_18 : decode cX10_mark 18 = .ok (.aload_n 0, 1) := by decide +kernel
theorem dX10_mark_19 : decode cX10_mark 19 = .ok (.getfield 59, 3) := by decide +kernel
theorem dX10_mark_22 : decode cX10_mark 22 = .ok (.getfield 292, 3) := by decide +kernel
theorem dX10_mark_25 : decode cX10_mark 25 = .ok (.arraylength, 1) := by decide +kernel
theorem dX10_mark_26 : decode cX10_mark 26 = .ok (.if_icmp .lt 8, 3) := by decide +kernel
theorem dX10_mark_29 : decode cX10_mark 29 = .ok (.bipush (-15), 2) := by decide +kernel
theorem dX10_mark_31 : decode cX10_mark 31 = .ok (.goto 12, 3) := by decide +kernel
theorem dX10_mark_34 : decode cX10_mark 34 = .ok (.aload_n 0, 1) := by decide +kernel
theorem dX10_mark_35 : decode cX10_mark 35 = .ok (.getfield 59, 3) := by decide +kernel
theorem dX10_mark_38 : decode cX10_mark 38 = .ok (.getfield 292, 3) := by decide +kernel
theorem dX10_mark_41 : decode cX10_mark 41 = .ok (.iload_n 1, 1) := by decide +kernel
theorem dX10_mark_42 : decode cX10_mark 42 = .ok (.iaload, 1) := by decide +kernel
theorem dX10_mark_43 : decode cX10_mark 43 = .ok (.ireturn, 1) := by decide +kernel
theorem dX2_lostNow_0 : decode cX2_lostNow 0 = .ok (.iconst 0, 1) := by decide +kernel
theorem dX2_lostNow_1 : decode cX2_lostNow 1 = .ok (.istore_n 1, 1) := by decide +kernel
theorem dX2_lostNow_2 : decode cX2_lostNow 2 = .ok (.iconst 0, 1) := by decide +kernel
theorem dX2_lostNow_3 : decode cX2_lostNow 3 = .ok (.istore_n 2, 1) := by decide +kernel
theorem dX2_lostNow_4 : decode cX2_lostNow 4 = .ok (.iload_n 2, 1) := by decide +kernel
theorem dX2_lostNow_5 : decode cX2_lostNow 5 = .ok (.aload_n 0, 1) := by decide +kernel
theorem dX2_lostNow_6 : decode cX2_lostNow 6 = .ok (.getfield 43, 3) := by decide +kernel
theorem dX2_lostNow_9 : decode cX2_lostNow 9 = .ok (.arraylength, 1) := by decide +kernel
theorem dX2_lostNow_10 : decode cX2_lostNow 10 = .ok (.if_icmp .ge 21, 3) := by decide +kernel
theorem dX2_lostNow_13 : decode cX2_lostNow 13 = .ok (.aload_n 0, 1) := by decide +kernel
theorem dX2_lostNow_14 : decode cX2_lostNow 14 = .ok (.getfield 43, 3) := by decide +kernel
theorem dX2_lostNow_17 : decode cX2_lostNow 17 = .ok (.iload_n 2, 1) := by decide +kernel
theorem dX2_lostNow_18 : decode cX2_lostNow 18 = .ok (.baload, 1) := by decide +kernel
theorem dX2_lostNow_19 : decode cX2_lostNow 19 = .ok (.ifCond .eq 6, 3) := by decide +kernel
theorem dX2_lostNow_22 : decode cX2_lostNow 22 = .ok (.iinc 1 1, 3) := by decide +kernel
theorem dX2_lostNow_25 : decode cX2_lostNow 25 = .ok (.iinc 2 1, 3) := by decide +kernel
theorem dX2_lostNow_28 : decode cX2_lostNow 28 = .ok (.goto (-24), 3) := by decide +kernel
theorem dX2_lostNow_31 : decode cX2_lostNow 31 = .ok (.iload_n 1, 1) := by decide +kernel
theorem dX2_lostNow_32 : decode cX2_lostNow 32 = .ok (.ireturn, 1) := by decide +kernel
theorem dX8_liveEntries_0 : decode cX8_liveEntries 0 = .ok (.iconst 0, 1) := by decide +kernel
theorem dX8_liveEntries_1 : decode cX8_liveEntries 1 = .ok (.istore_n 1, 1) := by decide +kernel
theorem dX8_liveEntries_2 : decode cX8_liveEntries 2 = .ok (.aload_n 0, 1) := by decide +kernel
theorem dX8_liveEntries_3 : decode cX8_liveEntries 3 = .ok (.getfield 68, 3) := by decide +kernel
theorem dX8_liveEntries_6 : decode cX8_liveEntries 6 = .ok (.istore_n 2, 1) := by decide +kernel
theorem dX8_liveEntries_7 : decode cX8_liveEntries 7 = .ok (.iload_n 2, 1) := by decide +kernel
theorem dX8_liveEntries_8 : decode cX8_liveEntries 8 = .ok (.aload_n 0, 1) := by decide +kernel
theorem dX8_liveEntries_9 : decode cX8_liveEntries 9 = .ok (.getfield 65, 3) := by decide +kernel
theorem dX8_liveEntries_12 : decode cX8_liveEntries 12 = .ok (.if_icmp .ge 20, 3) := by decide +kernel
theorem dX8_liveEntries_15 : decode cX8_liveEntries 15 = .ok (.aload_n 0, 1) := by decide +kernel
theorem dX8_liveEntries_16 : decode cX8_liveEntries 16 = .ok (.iload_n 2, 1) := by decide +kernel
theorem dX8_liveEntries_17 : decode cX8_liveEntries 17 = .ok (.invokevirtual 74, 3) := by decide +kernel
theorem dX8_liveEntries_20 : decode cX8_liveEntries 20 = .ok (.ifCond .eq 6, 3) := by decide +kernel
theorem dX8_liveEntries_23 : decode cX8_liveEntries 23 = .ok (.iinc 1 1, 3) := by decide +kernel
theorem dX8_liveEntries_26 : decode cX8_liveEntries 26 = .ok (.iinc 2 1, 3) := by decide +kernel
theorem dX8_liveEntries_29 : decode cX8_liveEntries 29 = .ok (.goto (-22), 3) := by decide +kernel
theorem dX8_liveEntries_32 : decode cX8_liveEntries 32 = .ok (.iload_n 1, 1) := by decide +kernel
theorem dX8_liveEntries_33 : decode cX8_liveEntries 33 = .ok (.ireturn, 1) := by decide +kernel
theorem dX4_freeCount_0 : decode cX4_freeCount 0 = .ok (.iconst 0, 1) := by decide +kernel
theorem dX4_freeCount_1 : decode cX4_freeCount 1 = .ok (.istore_n 1, 1) := by decide +kernel
theorem dX4_freeCount_2 : decode cX4_freeCount 2 = .ok (.iconst 0, 1) := by decide +kernel
theorem dX4_freeCount_3 : decode cX4_freeCount 3 = .ok (.istore_n 2, 1) := by decide +kernel
theorem dX4_freeCount_4 : decode cX4_freeCount 4 = .ok (.iload_n 2, 1) := by decide +kernel
theorem dX4_freeCount_5 : decode cX4_freeCount 5 = .ok (.bipush 64, 2) := by decide +kernel
theorem dX4_freeCount_7 : decode cX4_freeCount 7 = .ok (.if_icmp .ge 20, 3) := by decide +kernel
theorem dX4_freeCount_10 : decode cX4_freeCount 10 = .ok (.aload_n 0, 1) := by decide +kernel
theorem dX4_freeCount_11 : decode cX4_freeCount 11 = .ok (.iload_n 2, 1) := by decide +kernel
theorem dX4_freeCount_12 : decode cX4_freeCount 12 = .ok (.invokevirtual 29, 3) := by decide +kernel
theorem dX4_freeCount_15 : decode cX4_freeCount 15 = .ok (.ifCond .ne 6, 3) := by decide +kernel
theorem dX4_freeCount_18 : decode cX4_freeCount 18 = .ok (.iinc 1 1, 3) := by decide +kernel
theorem dX4_freeCount_21 : decode cX4_freeCount 21 = .ok (.iinc 2 1, 3) := by decide +kernel
theorem dX4_freeCount_24 : decode cX4_freeCount 24 = .ok (.goto (-20), 3) := by decide +kernel
theorem dX4_freeCount_27 : decode cX4_freeCount 27 = .ok (.iload_n 1, 1) := by decide +kernel
theorem dX4_freeCount_28 : decode cX4_freeCount 28 = .ok (.ireturn, 1) := by decide +kernel
theorem dX10_countInMemory_0 : decode cX10_countInMemory 0 = .ok (.iload_n 1, 1) := by decide +kernel
theorem dX10_countInMemory_1 : decode cX10_countInMemory 1 = .ok (.tableswitch 115 5 15 #[59, 67, 75, 83, 91, 115, 115, 115, 115, 99, 107], 59) := by decide +kernel
theorem dX10_countInMemory_60 : decode cX10_countInMemory 60 = .ok (.aload_n 0, 1) := by decide +kernel
theorem dX10_countInMemory_61 : decode cX10_countInMemory 61 = .ok (.getfield 59, 3) := by decide +kernel
theorem dX10_countInMemory_64 : decode cX10_countInMemory 64 = .ok (.invokevirtual 323, 3) := by decide +kernel
theorem dX10_countInMemory_67 : decode cX10_countInMemory 67 = .ok (.ireturn, 1) := by decide +kernel
theorem dX10_countInMemory_68 : decode cX10_countInMemory 68 = .ok (.aload_n 0, 1) := by decide +kernel
theorem dX10_countInMemory_69 : decode cX10_countInMemory 69 = .ok (.getfield 59, 3) := by decide +kernel
theorem dX10_countInMemory_72 : decode cX10_countInMemory 72 = .ok (.invokevirtual 326, 3) := by decide +kernel
theorem dX10_countInMemory_75 : decode cX10_countInMemory 75 = .ok (.ireturn, 1) := by decide +kernel
theorem dX10_countInMemory_76 : decode cX10_countInMemory 76 = .ok (.aload_n 0, 1) := by decide +kernel
theorem dX10_countInMemory_77 : decode cX10_countInMemory 77 = .ok (.getfield 63, 3) := by decide +kernel
theorem dX10_countInMemory_80 : decode cX10_countInMemory 80 = .ok (.getfield 268, 3) := by decide +kernel
theorem dX10_countInMemory_83 : decode cX10_countInMemory 83 = .ok (.ireturn, 1) := by decide +kernel
theorem dX10_countInMemory_84 : decode cX10_countInMemory 84 = .ok (.aload_n 0, 1) := by decide +kernel
theorem dX10_countInMemory_85 : decode cX10_countInMemory 85 = .ok (.getfield 67, 3) := by decide +kernel
theorem dX10_countInMemory_88 : decode cX10_countInMemory 88 = .ok (.invokevirtual 329, 3) := by decide +kernel
theorem dX10_countInMemory_91 : decode cX10_countInMemory 91 = .ok (.ireturn, 1) := by decide +kernel
theorem dX10_countInMemory_92 : decode cX10_countInMemory 92 = .ok (.aload_n 0, 1) := by decide +kernel
theorem dX10_countInMemory_93 : decode cX10_countInMemory 93 = .ok (.getfield 71, 3) := by decide +kernel
theorem dX10_countInMemory_96 : decode cX10_countInMemory 96 = .ok (.invokevirtual 332, 3) := by decide +kernel
theorem dX10_countInMemory_99 : decode cX10_countInMemory 99 = .ok (.ireturn, 1) := by decide +kernel
theorem dX10_countInMemory_100 : decode cX10_countInMemory 100 = .ok (.aload_n 0, 1) := by decide +kernel
theorem dX10_countInMemory_101 : decode cX10_countInMemory 101 = .ok (.getfield 59, 3) := by decide +kernel
theorem dX10_countInMemory_104 : decode cX10_countInMemory 104 = .ok (.getfield 333, 3) := by decide +kernel
theorem dX10_countInMemory_107 : decode cX10_countInMemory 107 = .ok (.ireturn, 1) := by decide +kernel
theorem dX10_countInMemory_108 : decode cX10_countInMemory 108 = .ok (.aload_n 0, 1) := by decide +kernel
theorem dX10_countInMemory_109 : decode cX10_countInMemory 109 = .ok (.getfield 59, 3) := by decide +kernel
theorem dX10_countInMemory_112 : decode cX10_countInMemory 112 = .ok (.invokevirtual 336, 3) := by decide +kernel
theorem dX10_countInMemory_115 : decode cX10_countInMemory 115 = .ok (.ireturn, 1) := by decide +kernel
theorem dX10_countInMemory_116 : decode cX10_countInMemory 116 = .ok (.iconst (-1), 1) := by decide +kernel
theorem dX10_countInMemory_117 : decode cX10_countInMemory 117 = .ok (.ireturn, 1) := by decide +kernel
theorem dX10_count_0 : decode cX10_count 0 = .ok (.iload_n 1, 1) := by decide +kernel
theorem dX10_count_1 : decode cX10_count 1 = .ok (.tableswitch 143 0 13 #[71, 79, 87, 95, 103, 143, 143, 143, 143, 143, 111, 119, 127, 135], 71) := by decide +kernel
theorem dX10_count_72 : decode cX10_count 72 = .ok (.aload_n 0, 1) := by decide +kernel
theorem dX10_count_73 : decode cX10_count 73 = .ok (.getfield 53, 3) := by decide +kernel
theorem dX10_count_76 : decode cX10_count 76 = .ok (.getfield 296, 3) := by decide +kernel
theorem dX10_count_79 : decode cX10_count 79 = .ok (.ireturn, 1) := by decide +kernel
theorem dX10_count_80 : decode cX10_count 80 = .ok (.aload_n 0, 1) := by decide +kernel
theorem dX10_count_81 : decode cX10_count 81 = .ok (.getfield 53, 3) := by decide +kernel
theorem dX10_count_84 : decode cX10_count 84 = .ok (.getfield 299, 3) := by decide +kernel
theorem dX10_count_87 : decode cX10_count 87 = .ok (.ireturn, 1) := by decide +kernel
theorem dX10_count_88 : decode cX10_count 88 = .ok (.aload_n 0, 1) := by decide +kernel
theorem dX10_count_89 : decode cX10_count 89 = .ok (.getfield 53, 3) := by decide +kernel
theorem dX10_count_92 : decode cX10_count 92 = .ok (.getfield 302, 3) := by decide +kernel
theorem dX10_count_95 : decode cX10_count 95 = .ok (.ireturn, 1) := by decide +kernel
theorem dX10_count_96 : decode cX10_count 96 = .ok (.aload_n 0, 1) := by decide +kernel
theorem dX10_count_97 : decode cX10_count 97 = .ok (.getfield 53, 3) := by decide +kernel
theorem dX10_count_100 : decode cX10_count 100 = .ok (.getfield 305, 3) := by decide +kernel
theorem dX10_count_103 : decode cX10_count 103 = .ok (.ireturn, 1) := by decide +kernel
theorem dX10_count_104 : decode cX10_count 104 = .ok (.aload_n 0, 1) := by decide +kernel
theorem dX10_count_105 : decode cX10_count 105 = .ok (.getfield 59, 3) := by decide +kernel
theorem dX10_count_108 : decode cX10_count 108 = .ok (.getfield 308, 3) := by decide +kernel
theorem dX10_count_111 : decode cX10_count 111 = .ok (.ireturn, 1) := by decide +kernel
theorem dX10_count_112 : decode cX10_count 112 = .ok (.aload_n 0, 1) := by decide +kernel
theorem dX10_count_113 : decode cX10_count 113 = .ok (.getfield 63, 3) := by decide +kernel
theorem dX10_count_116 : decode cX10_count 116 = .ok (.getfield 311, 3) := by decide +kernel
theorem dX10_count_119 : decode cX10_count 119 = .ok (.ireturn, 1) := by decide +kernel
theorem dX10_count_120 : decode cX10_count 120 = .ok (.aload_n 0, 1) := by decide +kernel
theorem dX10_count_121 : decode cX10_count 121 = .ok (.getfield 53, 3) := by decide +kernel
theorem dX10_count_124 : decode cX10_count 124 = .ok (.getfield 314, 3) := by decide +kernel
theorem dX10_count_127 : decode cX10_count 127 = .ok (.ireturn, 1) := by decide +kernel
theorem dX10_count_128 : decode cX10_count 128 = .ok (.aload_n 0, 1) := by decide +kernel
theorem dX10_count_129 : decode cX10_count 129 = .ok (.getfield 53, 3) := by decide +kernel
theorem dX10_count_132 : decode cX10_count 132 = .ok (.invokevirtual 317, 3) := by decide +kernel
theorem dX10_count_135 : decode cX10_count 135 = .ok (.ireturn, 1) := by decide +kernel
theorem dX10_count_136 : decode cX10_count 136 = .ok (.aload_n 0, 1) := by decide +kernel
theorem dX10_count_137 : decode cX10_count 137 = .ok (.getfield 53, 3) := by decide +kernel
theorem dX10_count_140 : decode cX10_count 140 = .ok (.getfield 259, 3) := by decide +kernel
theorem dX10_count_143 : decode cX10_count 143 = .ok (.ireturn, 1) := by decide +kernel
theorem dX10_count_144 : decode cX10_count 144 = .ok (.aload_n 0, 1) := by decide +kernel
theorem dX10_count_145 : decode cX10_count 145 = .ok (.getfield 53, 3) := by decide +kernel
theorem dX10_count_148 : decode cX10_count 148 = .ok (.getfield 122, 3) := by decide +kernel
theorem dX10_count_151 : decode cX10_count 151 = .ok (.ifCond .eq 11, 3) := by decide +kernel
theorem dX10_count_154 : decode cX10_count 154 = .ok (.aload_n 0, 1) := by decide +kernel
theorem dX10_count_155 : decode cX10_count 155 = .ok (.iload_n 1, 1) := by decide +kernel
theorem dX10_count_156 : decode cX10_count 156 = .ok (.invokevirtual 320, 3) := by decide +kernel
theorem dX10_count_159 : decode cX10_count 159 = .ok (.goto 5, 3) := by decide +kernel
theorem dX10_count_162 : decode cX10_count 162 = .ok (.bipush (-99), 2) := by decide +kernel
theorem dX10_count_164 : decode cX10_count 164 = .ok (.ireturn, 1) := by decide +kernel
theorem dX11_tape_0 : decode cX11_tape 0 = .ok (.bipush 24, 2) := by decide +kernel
theorem dX11_tape_2 : decode cX11_tape 2 = .ok (.istore_n 2, 1) := by decide +kernel
theorem dX11_tape_3 : decode cX11_tape 3 = .ok (.iload_n 2, 1) := by decide +kernel
theorem dX11_tape_4 : decode cX11_tape 4 = .ok (.ifCond .lt 32, 3) := by decide +kernel
theorem dX11_tape_7 : decode cX11_tape 7 = .ok (.aload_n 0, 1) := by decide +kernel
theorem dX11_tape_8 : decode cX11_tape 8 = .ok (.getfield 140, 3) := by decide +kernel
theorem dX11_tape_11 : decode cX11_tape 11 = .ok (.aload_n 0, 1) := by decide +kernel
theorem dX11_tape_12 : decode cX11_tape 12 = .ok (.getfield 180, 3) := by decide +kernel
theorem dX11_tape_15 : decode cX11_tape 15 = .ok (.iload_n 1, 1) := by decide +kernel
theorem dX11_tape_16 : decode cX11_tape 16 = .ok (.iload_n 2, 1) := by decide +kernel
theorem dX11_tape_17 : decode cX11_tape 17 = .ok (.ishr, 1) := by decide +kernel
theorem dX11_tape_18 : decode cX11_tape 18 = .ok (.i2b, 1) := by decide +kernel
theorem dX11_tape_19 : decode cX11_tape 19 = .ok (.bastore, 1) := by decide +kernel
theorem dX11_tape_20 : decode cX11_tape 20 = .ok (.aload_n 0, 1) := by decide +kernel
theorem dX11_tape_21 : decode cX11_tape 21 = .ok (.dup, 1) := by decide +kernel
theorem dX11_tape_22 : decode cX11_tape 22 = .ok (.getfield 180, 3) := by decide +kernel
theorem dX11_tape_25 : decode cX11_tape 25 = .ok (.iconst 1, 1) := by decide +kernel
theorem dX11_tape_26 : decode cX11_tape 26 = .ok (.iadd, 1) := by decide +kernel
theorem dX11_tape_27 : decode cX11_tape 27 = .ok (.putfield 180, 3) := by decide +kernel
theorem dX11_tape_30 : decode cX11_tape 30 = .ok (.iinc 2 (-8), 3) := by decide +kernel
theorem dX11_tape_33 : decode cX11_tape 33 = .ok (.goto (-30), 3) := by decide +kernel
theorem dX11_tape_36 : decode cX11_tape 36 = .ok (.return_, 1) := by decide +kernel
theorem dX11_feed_0 : decode cX11_feed 0 = .ok (.aload_n 0, 1) := by decide +kernel
theorem dX11_feed_1 : decode cX11_feed 1 = .ok (.getfield 180, 3) := by decide +kernel
theorem dX11_feed_4 : decode cX11_feed 4 = .ok (.sipush 1260, 3) := by decide +kernel
theorem dX11_feed_7 : decode cX11_feed 7 = .ok (.if_icmp .le 5, 3) := by decide +kernel
theorem dX11_feed_10 : decode cX11_feed 10 = .ok (.iconst 0, 1) := by decide +kernel
theorem dX11_feed_11 : decode cX11_feed 11 = .ok (.ireturn, 1) := by decide +kernel
theorem dX11_feed_12 : decode cX11_feed 12 = .ok (.aload_n 0, 1) := by decide +kernel
theorem dX11_feed_13 : decode cX11_feed 13 = .ok (.iload_n 1, 1) := by decide +kernel
theorem dX11_feed_14 : decode cX11_feed 14 = .ok (.invokevirtual 183, 3) := by decide +kernel
theorem dX11_feed_17 : decode cX11_feed 17 = .ok (.aload_n 0, 1) := by decide +kernel
theorem dX11_feed_18 : decode cX11_feed 18 = .ok (.iload_n 2, 1) := by decide +kernel
theorem dX11_feed_19 : decode cX11_feed 19 = .ok (.invokevirtual 183, 3) := by decide +kernel
theorem dX11_feed_22 : decode cX11_feed 22 = .ok (.aload_n 0, 1) := by decide +kernel
theorem dX11_feed_23 : decode cX11_feed 23 = .ok (.iload_n 3, 1) := by decide +kernel
theorem dX11_feed_24 : decode cX11_feed 24 = .ok (.invokevirtual 183, 3) := by decide +kernel
theorem dX11_feed_27 : decode cX11_feed 27 = .ok (.aload_n 0, 1) := by decide +kernel
theorem dX11_feed_28 : decode cX11_feed 28 = .ok (.iload 4, 2) := by decide +kernel
theorem dX11_feed_30 : decode cX11_feed 30 = .ok (.invokevirtual 183, 3) := by decide +kernel
theorem dX11_feed_33 : decode cX11_feed 33 = .ok (.aload_n 0, 1) := by decide +kernel
theorem dX11_feed_34 : decode cX11_feed 34 = .ok (.iload 5, 2) := by decide +kernel
theorem dX11_feed_36 : decode cX11_feed 36 = .ok (.invokevirtual 183, 3) := by decide +kernel
theorem dX11_feed_39 : decode cX11_feed 39 = .ok (.iconst 1, 1) := by decide +kernel
theorem dX11_feed_40 : decode cX11_feed 40 = .ok (.ireturn, 1) := by decide +kernel
theorem dX11_end_0 : decode cX11_end 0 = .ok (.iload_n 1, 1) := by decide +kernel
theorem dX11_end_1 : decode cX11_end 1 = .ok (.ifCond .lt 11, 3) := by decide +kernel
theorem dX11_end_4 : decode cX11_end 4 = .ok (.iload_n 1, 1) := by decide +kernel
theorem dX11_end_5 : decode cX11_end 5 = .ok (.aload_n 0, 1) := by decide +kernel
theorem dX11_end_6 : decode cX11_end 6 = .ok (.getfield 180, 3) := by decide +kernel
theorem dX11_end_9 : decode cX11_end 9 = .ok (.if_icmp .le 5, 3) := by decide +kernel
theorem dX11_end_12 : decode cX11_end 12 = .ok (.iconst 0, 1) := by decide +kernel
theorem dX11_end_13 : decode cX11_end 13 = .ok (.ireturn, 1) := by decide +kernel
theorem dX11_end_14 : decode cX11_end 14 = .ok (.aload_n 0, 1) := by decide +kernel
theorem dX11_end_15 : decode cX11_end 15 = .ok (.iload_n 1, 1) := by decide +kernel
theorem dX11_end_16 : decode cX11_end 16 = .ok (.putfield 180, 3) := by decide +kernel
theorem dX11_end_19 : decode cX11_end 19 = .ok (.iconst 1, 1) := by decide +kernel
theorem dX11_end_20 : decode cX11_end 20 = .ok (.ireturn, 1) := by decide +kernel
theorem dX11_keep_0 : decode cX11_keep 0 = .ok (.iconst 0, 1) := by decide +kernel
theorem dX11_keep_1 : decode cX11_keep 1 = .ok (.istore_n 1, 1) := by decide +kernel
theorem dX11_keep_2 : decode cX11_keep 2 = .ok (.iload_n 1, 1) := by decide +kernel
theorem dX11_keep_3 : decode cX11_keep 3 = .ok (.bipush 64, 2) := by decide +kernel
theorem dX11_keep_5 : decode cX11_keep 5 = .ok (.if_icmp .ge 93, 3) := by decide +kernel
theorem dX11_keep_8 : decode cX11_keep 8 = .ok (.aload_n 0, 1) := by decide +kernel
theorem dX11_keep_9 : decode cX11_keep 9 = .ok (.getfield 89, 3) := by decide +kernel
theorem dX11_keep_12 : decode cX11_keep 12 = .ok (.iload_n 1, 1) := by decide +kernel
theorem dX11_keep_13 : decode cX11_keep 13 = .ok (.aload_n 0, 1) := by decide +kernel
theorem dX11_keep_14 : decode cX11_keep 14 = .ok (.getfield 40, 3) := by decide +kernel
theorem dX11_keep_17 : decode cX11_keep 17 = .ok (.iload_n 1, 1) := by decide +kernel
theorem dX11_keep_18 : decode cX11_keep 18 = .ok (.iaload, 1) := by decide +kernel
theorem dX11_keep_19 : decode cX11_keep 19 = .ok (.iastore, 1) := by decide +kernel
theorem dX11_keep_20 : decode cX11_keep 20 = .ok (.aload_n 0, 1) := by decide +kernel
theorem dX11_keep_21 : decode cX11_keep 21 = .ok (.getfield 92, 3) := by decide +kernel
theorem dX11_keep_24 : decode cX11_keep 24 = .ok (.iload_n 1, 1) := by decide +kernel
theorem dX11_keep_25 : decode cX11_keep 25 = .ok (.aload_n 0, 1) := by decide +kernel
theorem dX11_keep_26 : decode cX11_keep 26 = .ok (.getfield 43, 3) := by decide +kernel
theorem dX11_keep_29 : decode cX11_keep 29 = .ok (.iload_n 1, 1) := by decide +kernel
theorem dX11_keep_30 : decode cX11_keep 30 = .ok (.iaload, 1) := by decide +kernel
theorem dX11_keep_31 : decode cX11_keep 31 = .ok (.iastore, 1) := by decide +kernel
theorem dX11_keep_32 : decode cX11_keep 32 = .ok (.aload_n 0, 1) := by decide +kernel
theorem dX11_keep_33 : decode cX11_keep 33 = .ok (.getfield 95, 3) := by decide +kernel
theorem dX11_keep_36 : decode cX11_keep 36 = .ok (.iload_n 1, 1) := by decide +kernel
theorem dX11_keep_37 : decode cX11_keep 37 = .ok (.aload_n 0, 1) := by decide +kernel
theorem dX11_keep_38 : decode cX11_keep 38 = .ok (.getfield 46, 3) := by decide +kernel
theorem dX11_keep_41 : decode cX11_keep 41 = .ok (.iload_n 1, 1) := by decide +kernel
theorem dX11_keep_42 : decode cX11_keep 42 = .ok (.iaload, 1) := by decide +kernel
theorem dX11_keep_43 : decode cX11_keep 43 = .ok (.iastore, 1) := by decide +kernel
theorem dX11_keep_44 : decode cX11_keep 44 = .ok (.aload_n 0, 1) := by decide +kernel
theorem dX11_keep_45 : decode cX11_keep 45 = .ok (.getfield 98, 3) := by decide +kernel
theorem dX11_keep_48 : decode cX11_keep 48 = .ok (.iload_n 1, 1) := by decide +kernel
theorem dX11_keep_49 : decode cX11_keep 49 = .ok (.aload_n 0, 1) := by decide +kernel
theorem dX11_keep_50 : decode cX11_keep 50 = .ok (.getfield 49, 3) := by decide +kernel
theorem dX11_keep_53 : decode cX11_keep 53 = .ok (.iload_n 1, 1) := by decide +kernel
theorem dX11_keep_54 : decode cX11_keep 54 = .ok (.iaload, 1) := by decide +kernel
theorem dX11_keep_55 : decode cX11_keep 55 = .ok (.iastore, 1) := by decide +kernel
theorem dX11_keep_56 : decode cX11_keep 56 = .ok (.aload_n 0, 1) := by decide +kernel
theorem dX11_keep_57 : decode cX11_keep 57 = .ok (.getfield 107, 3) := by decide +kernel
theorem dX11_keep_60 : decode cX11_keep 60 = .ok (.iload_n 1, 1) := by decide +kernel
theorem dX11_keep_61 : decode cX11_keep 61 = .ok (.aload_n 0, 1) := by decide +kernel
theorem dX11_keep_62 : decode cX11_keep 62 = .ok (.getfield 59, 3) := by decide +kernel
theorem dX11_keep_65 : decode cX11_keep 65 = .ok (.iload_n 1, 1) := by decide +kernel
theorem dX11_keep_66 : decode cX11_keep 66 = .ok (.iaload, 1) := by decide +kernel
theorem dX11_keep_67 : decode cX11_keep 67 = .ok (.iastore, 1) := by decide +kernel
theorem dX11_keep_68 : decode cX11_keep 68 = .ok (.aload_n 0, 1) := by decide +kernel
theorem dX11_keep_69 : decode cX11_keep 69 = .ok (.getfield 110, 3) := by decide +kernel
theorem dX11_keep_72 : decode cX11_keep 72 = .ok (.iload_n 1, 1) := by decide +kernel
theorem dX11_keep_73 : decode cX11_keep 73 = .ok (.aload_n 0, 1) := by decide +kernel
theorem dX11_keep_74 : decode cX11_keep 74 = .ok (.getfield 62, 3) := by decide +kernel
theorem dX11_keep_77 : decode cX11_keep 77 = .ok (.iload_n 1, 1) := by decide +kernel
theorem dX11_keep_78 : decode cX11_keep 78 = .ok (.iaload, 1) := by decide +kernel
theorem dX11_keep_79 : decode cX11_keep 79 = .ok (.iastore, 1) := by decide +kernel
theorem dX11_keep_80 : decode cX11_keep 80 = .ok (.aload_n 0, 1) := by decide +kernel
theorem dX11_keep_81 : decode cX11_keep 81 = .ok (.getfield 122, 3) := by decide +kernel
theorem dX11_keep_84 : decode cX11_keep 84 = .ok (.iload_n 1, 1) := by decide +kernel
theorem dX11_keep_85 : decode cX11_keep 85 = .ok (.aload_n 0, 1) := by decide +kernel
theorem dX11_keep_86 : decode cX11_keep 86 = .ok (.getfield 75, 3) := by decide +kernel
theorem dX11_keep_89 : decode cX11_keep 89 = .ok (.iload_n 1, 1) := by decide +kernel
theorem dX11_keep_90 : decode cX11_keep 90 = .ok (.iaload, 1) := by decide +kernel
theorem dX11_keep_91 : decode cX11_keep 91 = .ok (.iastore, 1) := by decide +kernel
theorem dX11_keep_92 : decode cX11_keep 92 = .ok (.iinc 1 1, 3) := by decide +kernel
theorem dX11_keep_95 : decode cX11_keep 95 = .ok (.goto (-93), 3) := by decide +kernel
theorem dX11_keep_98 : decode cX11_keep 98 = .ok (.iconst 0, 1) := by decide +kernel
theorem dX11_keep_99 : decode cX11_keep 99 = .ok (.istore_n 1, 1) := by decide +kernel
theorem dX11_keep_100 : decode cX11_keep 100 = .ok (.iload_n 1, 1) := by decide +kernel
theorem dX11_keep_101 : decode cX11_keep 101 = .ok (.sipush 2176, 3) := by decide +kernel
theorem dX11_keep_104 : decode cX11_keep 104 = .ok (.if_icmp .ge 21, 3) := by decide +kernel
theorem dX11_keep_107 : decode cX11_keep 107 = .ok (.aload_n 0, 1) := by decide +kernel
theorem dX11_keep_108 : decode cX11_keep 108 = .ok (.getfield 104, 3) := by decide +kernel
theorem dX11_keep_111 : decode cX11_keep 111 = .ok (.iload_n 1, 1) := by decide +kernel
theorem dX11_keep_112 : decode cX11_keep 112 = .ok (.aload_n 0, 1) := by decide +kernel
theorem dX11_keep_113 : decode cX11_keep 113 = .ok (.getfield 56, 3) := by decide +kernel
theorem dX11_keep_116 : decode cX11_keep 116 = .ok (.iload_n 1, 1) := by decide +kernel
theorem dX11_keep_117 : decode cX11_keep 117 = .ok (.iaload, 1) := by decide +kernel
theorem dX11_keep_118 : decode cX11_keep 118 = .ok (.iastore, 1) := by decide +kernel
theorem dX11_keep_119 : decode cX11_keep 119 = .ok (.iinc 1 1, 3) := by decide +kernel
theorem dX11_keep_122 : decode cX11_keep 122 = .ok (.goto (-22), 3) := by decide +kernel
theorem dX11_keep_125 : decode cX11_keep 125 = .ok (.iconst 0, 1) := by decide +kernel
theorem dX11_keep_126 : decode cX11_keep 126 = .ok (.istore_n 1, 1) := by decide +kernel
theorem dX11_keep_127 : decode cX11_keep 127 = .ok (.iload_n 1, 1) := by decide +kernel
theorem dX11_keep_128 : decode cX11_keep 128 = .ok (.ldc 52, 2) := by decide +kernel
theorem dX11_keep_130 : decode cX11_keep 130 = .ok (.if_icmp .ge 21, 3) := by decide +kernel
theorem dX11_keep_133 : decode cX11_keep 133 = .ok (.aload_n 0, 1) := by decide +kernel
theorem dX11_keep_134 : decode cX11_keep 134 = .ok (.getfield 101, 3) := by decide +kernel
theorem dX11_keep_137 : decode cX11_keep 137 = .ok (.iload_n 1, 1) := by decide +kernel
theorem dX11_keep_138 : decode cX11_keep 138 = .ok (.aload_n 0, 1) := by decide +kernel
theorem dX11_keep_139 : decode cX11_keep 139 = .ok (.getfield 53, 3) := by decide +kernel
theorem dX11_keep_142 : decode cX11_keep 142 = .ok (.iload_n 1, 1) := by decide +kernel
theorem dX11_keep_143 : decode cX11_keep 143 = .ok (.iaload, 1) := by decide +kernel
theorem dX11_keep_144 : decode cX11_keep 144 = .ok (.iastore, 1) := by decide +kernel
theorem dX11_keep_145 : decode cX11_keep 145 = .ok (.iinc 1 1, 3) := by decide +kernel
theorem dX11_keep_148 : decode cX11_keep 148 = .ok (.goto (-21), 3) := by decide +kernel
theorem dX11_keep_151 : decode cX11_keep 151 = .ok (.iconst 0, 1) := by decide +kernel
theorem dX11_keep_152 : decode cX11_keep 152 = .ok (.istore_n 1, 1) := by decide +kernel
theorem dX11_keep_153 : decode cX11_keep 153 = .ok (.iload_n 1, 1) := by decide +kernel
theorem dX11_keep_154 : decode cX11_keep 154 = .ok (.sipush 2560, 3) := by decide +kernel
theorem dX11_keep_157 : decode cX11_keep 157 = .ok (.if_icmp .ge 21, 3) := by decide +kernel
theorem dX11_keep_160 : decode cX11_keep 160 = .ok (.aload_n 0, 1) := by decide +kernel
theorem dX11_keep_161 : decode cX11_keep 161 = .ok (.getfield 125, 3) := by decide +kernel
theorem dX11_keep_164 : decode cX11_keep 164 = .ok (.iload_n 1, 1) := by decide +kernel
theorem dX11_keep_165 : decode cX11_keep 165 = .ok (.aload_n 0, 1) := by decide +kernel
theorem dX11_keep_166 : decode cX11_keep 166 = .ok (.getfield 78, 3) := by decide +kernel
theorem dX11_keep_169 : decode cX11_keep 169 = .ok (.iload_n 1, 1) := by decide +kernel
theorem dX11_keep_170 : decode cX11_keep 170 = .ok (.baload, 1) := by decide +kernel
theorem dX11_keep_171 : decode cX11_keep 171 = .ok (.bastore, 1) := by decide +kernel
theorem dX11_keep_172 : decode cX11_keep 172 = .ok (.iinc 1 1, 3) := by decide +kernel
theorem dX11_keep_175 : decode cX11_keep 175 = .ok (.goto (-22), 3) := by decide +kernel
theorem dX11_keep_178 : decode cX11_keep 178 = .ok (.iconst 0, 1) := by decide +kernel
theorem dX11_keep_179 : decode cX11_keep 179 = .ok (.istore_n 1, 1) := by decide +kernel
theorem dX11_keep_180 : decode cX11_keep 180 = .ok (.iload_n 1, 1) := by decide +kernel
theorem dX11_keep_181 : decode cX11_keep 181 = .ok (.sipush 768, 3) := by decide +kernel
theorem dX11_keep_184 : decode cX11_keep 184 = .ok (.if_icmp .ge 21, 3) := by decide +kernel
theorem dX11_keep_187 : decode cX11_keep 187 = .ok (.aload_n 0, 1) := by decide +kernel
theorem dX11_keep_188 : decode cX11_keep 188 = .ok (.getfield 113, 3) := by decide +kernel
theorem dX11_keep_191 : decode cX11_keep 191 = .ok (.iload_n 1, 1) := by decide +kernel
theorem dX11_keep_192 : decode cX11_keep 192 = .ok (.aload_n 0, 1) := by decide +kernel
theorem dX11_keep_193 : decode cX11_keep 193 = .ok (.getfield 65, 3) := by decide +kernel
theorem dX11_keep_196 : decode cX11_keep 196 = .ok (.iload_n 1, 1) := by decide +kernel
theorem dX11_keep_197 : decode cX11_keep 197 = .ok (.iaload, 1) := by decide +kernel
theorem dX11_keep_198 : decode cX11_keep 198 = .ok (.iastore, 1) := by decide +kernel
theorem dX11_keep_199 : decode cX11_keep 199 = .ok (.iinc 1 1, 3) := by decide +kernel
theorem dX11_keep_202 : decode cX11_keep 202 = .ok (.goto (-22), 3) := by decide +kernel
theorem dX11_keep_205 : decode cX11_keep 205 = .ok (.iconst 0, 1) := by decide +kernel
theorem dX11_keep_206 : decode cX11_keep 206 = .ok (.istore_n 1, 1) := by decide +kernel
theorem dX11_keep_207 : decode cX11_keep 207 = .ok (.iload_n 1, 1) := by decide +kernel
theorem dX11_keep_208 : decode cX11_keep 208 = .ok (.sipush 3072, 3) := by decide +kernel
theorem dX11_keep_211 : decode cX11_keep 211 = .ok (.if_icmp .ge 33, 3) := by decide +kernel
theorem dX11_keep_214 : decode cX11_keep 214 = .ok (.aload_n 0, 1) := by decide +kernel
theorem dX11_keep_215 : decode cX11_keep 215 = .ok (.getfield 116, 3) := by decide +kernel
theorem dX11_keep_218 : decode cX11_keep 218 = .ok (.iload_n 1, 1) := by decide +kernel
theorem dX11_keep_219 : decode cX11_keep 219 = .ok (.aload_n 0, 1) := by decide +kernel
theorem dX11_keep_220 : decode cX11_keep 220 = .ok (.getfield 68, 3) := by decide +kernel
theorem dX11_keep_223 : decode cX11_keep 223 = .ok (.iload_n 1, 1) := by decide +kernel
theorem dX11_keep_224 : decode cX11_keep 224 = .ok (.iaload, 1) := by decide +kernel
theorem dX11_keep_225 : decode cX11_keep 225 = .ok (.iastore, 1) := by decide +kernel
theorem dX11_keep_226 : decode cX11_keep 226 = .ok (.aload_n 0, 1) := by decide +kernel
theorem dX11_keep_227 : decode cX11_keep 227 = .ok (.getfield 119, 3) := by decide +kernel
theorem dX11_keep_230 : decode cX11_keep 230 = .ok (.iload_n 1, 1) := by decide +kernel
theorem dX11_keep_231 : decode cX11_keep 231 = .ok (.aload_n 0, 1) := by decide +kernel
theorem dX11_keep_232 : decode cX11_keep 232 = .ok (.getfield 71, 3) := by decide +kernel
theorem dX11_keep_235 : decode cX11_keep 235 = .ok (.iload_n 1, 1) := by decide +kernel
theorem dX11_keep_236 : decode cX11_keep 236 = .ok (.laload, 1) := by decide +kernel
theorem dX11_keep_237 : decode cX11_keep 237 = .ok (.lastore, 1) := by decide +kernel
theorem dX11_keep_238 : decode cX11_keep 238 = .ok (.iinc 1 1, 3) := by decide +kernel
theorem dX11_keep_241 : decode cX11_keep 241 = .ok (.goto (-34), 3) := by decide +kernel
theorem dX11_keep_244 : decode cX11_keep 244 = .ok (.iconst 0, 1) := by decide +kernel
theorem dX11_keep_245 : decode cX11_keep 245 = .ok (.istore_n 1, 1) := by decide +kernel
theorem dX11_keep_246 : decode cX11_keep 246 = .ok (.iload_n 1, 1) := by decide +kernel
theorem dX11_keep_247 : decode cX11_keep 247 = .ok (.aload_n 0, 1) := by decide +kernel
theorem dX11_keep_248 : decode cX11_keep 248 = .ok (.getfield 168, 3) := by decide +kernel
theorem dX11_keep_251 : decode cX11_keep 251 = .ok (.if_icmp .ge 64, 3) := by decide +kernel
theorem dX11_keep_254 : decode cX11_keep 254 = .ok (.aload_n 0, 1) := by decide +kernel
theorem dX11_keep_255 : decode cX11_keep 255 = .ok (.getfield 128, 3) := by decide +kernel
theorem dX11_keep_258 : decode cX11_keep 258 = .ok (.iload_n 1, 1) := by decide +kernel
theorem dX11_keep_259 : decode cX11_keep 259 = .ok (.aload_n 0, 1) := by decide +kernel
theorem dX11_keep_260 : decode cX11_keep 260 = .ok (.getfield 82, 3) := by decide +kernel
theorem dX11_keep_263 : decode cX11_keep 263 = .ok (.iload_n 1, 1) := by decide +kernel
theorem dX11_keep_264 : decode cX11_keep 264 = .ok (.baload, 1) := by decide +kernel
