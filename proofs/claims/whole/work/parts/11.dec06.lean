theorem dX11_prune_127 : decode cX11_prune 127 = .ok (.ifCond .eq 5, 3) := by decide +kernel
theorem dX11_prune_130 : decode cX11_prune 130 = .ok (.iload_n 2, 1) := by decide +kernel
theorem dX11_prune_131 : decode cX11_prune 131 = .ok (.ireturn, 1) := by decide +kernel
theorem dX11_prune_132 : decode cX11_prune 132 = .ok (.aload_n 0, 1) := by decide +kernel
theorem dX11_prune_133 : decode cX11_prune 133 = .ok (.iload_n 1, 1) := by decide +kernel
theorem dX11_prune_134 : decode cX11_prune 134 = .ok (.invokevirtual 324, 3) := by decide +kernel
theorem dX11_prune_137 : decode cX11_prune 137 = .ok (.aload_n 0, 1) := by decide +kernel
theorem dX11_prune_138 : decode cX11_prune 138 = .ok (.getfield 56, 3) := by decide +kernel
theorem dX11_prune_141 : decode cX11_prune 141 = .ok (.bipush 34, 2) := by decide +kernel
theorem dX11_prune_143 : decode cX11_prune 143 = .ok (.iload_n 1, 1) := by decide +kernel
theorem dX11_prune_144 : decode cX11_prune 144 = .ok (.imul, 1) := by decide +kernel
theorem dX11_prune_145 : decode cX11_prune 145 = .ok (.iconst 1, 1) := by decide +kernel
theorem dX11_prune_146 : decode cX11_prune 146 = .ok (.iadd, 1) := by decide +kernel
theorem dX11_prune_147 : decode cX11_prune 147 = .ok (.iconst (-1), 1) := by decide +kernel
theorem dX11_prune_148 : decode cX11_prune 148 = .ok (.iastore, 1) := by decide +kernel
theorem dX11_prune_149 : decode cX11_prune 149 = .ok (.aload_n 0, 1) := by decide +kernel
theorem dX11_prune_150 : decode cX11_prune 150 = .ok (.iload 4, 2) := by decide +kernel
theorem dX11_prune_152 : decode cX11_prune 152 = .ok (.invokevirtual 434, 3) := by decide +kernel
theorem dX11_prune_155 : decode cX11_prune 155 = .ok (.iload_n 2, 1) := by decide +kernel
theorem dX11_prune_156 : decode cX11_prune 156 = .ok (.iconst 1, 1) := by decide +kernel
theorem dX11_prune_157 : decode cX11_prune 157 = .ok (.iadd, 1) := by decide +kernel
theorem dX11_prune_158 : decode cX11_prune 158 = .ok (.ireturn, 1) := by decide +kernel
theorem dX11_shrink_0 : decode cX11_shrink 0 = .ok (.iconst 0, 1) := by decide +kernel
theorem dX11_shrink_1 : decode cX11_shrink 1 = .ok (.istore_n 3, 1) := by decide +kernel
theorem dX11_shrink_2 : decode cX11_shrink 2 = .ok (.iload_n 2, 1) := by decide +kernel
theorem dX11_shrink_3 : decode cX11_shrink 3 = .ok (.istore 4, 2) := by decide +kernel
theorem dX11_shrink_5 : decode cX11_shrink 5 = .ok (.iload 4, 2) := by decide +kernel
theorem dX11_shrink_7 : decode cX11_shrink 7 = .ok (.sipush 1068, 3) := by decide +kernel
theorem dX11_shrink_10 : decode cX11_shrink 10 = .ok (.if_icmp .ge 93, 3) := by decide +kernel
theorem dX11_shrink_13 : decode cX11_shrink 13 = .ok (.aload_n 0, 1) := by decide +kernel
theorem dX11_shrink_14 : decode cX11_shrink 14 = .ok (.getfield 53, 3) := by decide +kernel
theorem dX11_shrink_17 : decode cX11_shrink 17 = .ok (.sipush 1068, 3) := by decide +kernel
theorem dX11_shrink_20 : decode cX11_shrink 20 = .ok (.iload_n 1, 1) := by decide +kernel
theorem dX11_shrink_21 : decode cX11_shrink 21 = .ok (.imul, 1) := by decide +kernel
theorem dX11_shrink_22 : decode cX11_shrink 22 = .ok (.iload 4, 2) := by decide +kernel
theorem dX11_shrink_24 : decode cX11_shrink 24 = .ok (.iadd, 1) := by decide +kernel
theorem dX11_shrink_25 : decode cX11_shrink 25 = .ok (.iaload, 1) := by decide +kernel
theorem dX11_shrink_26 : decode cX11_shrink 26 = .ok (.istore 5, 2) := by decide +kernel
theorem dX11_shrink_28 : decode cX11_shrink 28 = .ok (.iload 5, 2) := by decide +kernel
theorem dX11_shrink_30 : decode cX11_shrink 30 = .ok (.iconst (-1), 1) := by decide +kernel
theorem dX11_shrink_31 : decode cX11_shrink 31 = .ok (.if_icmp .ne 6, 3) := by decide +kernel
theorem dX11_shrink_34 : decode cX11_shrink 34 = .ok (.goto 63, 3) := by decide +kernel
theorem dX11_shrink_37 : decode cX11_shrink 37 = .ok (.iload 4, 2) := by decide +kernel
theorem dX11_shrink_39 : decode cX11_shrink 39 = .ok (.invokestatic 412, 3) := by decide +kernel
theorem dX11_shrink_42 : decode cX11_shrink 42 = .ok (.istore 6, 2) := by decide +kernel
theorem dX11_shrink_44 : decode cX11_shrink 44 = .ok (.iload 6, 2) := by decide +kernel
theorem dX11_shrink_46 : decode cX11_shrink 46 = .ok (.iconst (-1), 1) := by decide +kernel
theorem dX11_shrink_47 : decode cX11_shrink 47 = .ok (.if_icmp .ne 11, 3) := by decide +kernel
theorem dX11_shrink_50 : decode cX11_shrink 50 = .ok (.aload_n 0, 1) := by decide +kernel
theorem dX11_shrink_51 : decode cX11_shrink 51 = .ok (.iload_n 1, 1) := by decide +kernel
theorem dX11_shrink_52 : decode cX11_shrink 52 = .ok (.invokevirtual 324, 3) := by decide +kernel
theorem dX11_shrink_55 : decode cX11_shrink 55 = .ok (.goto 19, 3) := by decide +kernel
theorem dX11_shrink_58 : decode cX11_shrink 58 = .ok (.aload_n 0, 1) := by decide +kernel
theorem dX11_shrink_59 : decode cX11_shrink 59 = .ok (.aload_n 0, 1) := by decide +kernel
theorem dX11_shrink_60 : decode cX11_shrink 60 = .ok (.getfield 56, 3) := by decide +kernel
theorem dX11_shrink_63 : decode cX11_shrink 63 = .ok (.bipush 34, 2) := by decide +kernel
theorem dX11_shrink_65 : decode cX11_shrink 65 = .ok (.iload_n 1, 1) := by decide +kernel
theorem dX11_shrink_66 : decode cX11_shrink 66 = .ok (.imul, 1) := by decide +kernel
theorem dX11_shrink_67 : decode cX11_shrink 67 = .ok (.iload 6, 2) := by decide +kernel
theorem dX11_shrink_69 : decode cX11_shrink 69 = .ok (.iadd, 1) := by decide +kernel
theorem dX11_shrink_70 : decode cX11_shrink 70 = .ok (.iaload, 1) := by decide +kernel
theorem dX11_shrink_71 : decode cX11_shrink 71 = .ok (.invokevirtual 294, 3) := by decide +kernel
theorem dX11_shrink_74 : decode cX11_shrink 74 = .ok (.aload_n 0, 1) := by decide +kernel
theorem dX11_shrink_75 : decode cX11_shrink 75 = .ok (.getfield 53, 3) := by decide +kernel
theorem dX11_shrink_78 : decode cX11_shrink 78 = .ok (.sipush 1068, 3) := by decide +kernel
theorem dX11_shrink_81 : decode cX11_shrink 81 = .ok (.iload_n 1, 1) := by decide +kernel
theorem dX11_shrink_82 : decode cX11_shrink 82 = .ok (.imul, 1) := by decide +kernel
theorem dX11_shrink_83 : decode cX11_shrink 83 = .ok (.iload 4, 2) := by decide +kernel
theorem dX11_shrink_85 : decode cX11_shrink 85 = .ok (.iadd, 1) := by decide +kernel
theorem dX11_shrink_86 : decode cX11_shrink 86 = .ok (.iconst (-1), 1) := by decide +kernel
theorem dX11_shrink_87 : decode cX11_shrink 87 = .ok (.iastore, 1) := by decide +kernel
theorem dX11_shrink_88 : decode cX11_shrink 88 = .ok (.aload_n 0, 1) := by decide +kernel
theorem dX11_shrink_89 : decode cX11_shrink 89 = .ok (.iload 5, 2) := by decide +kernel
theorem dX11_shrink_91 : decode cX11_shrink 91 = .ok (.invokevirtual 434, 3) := by decide +kernel
theorem dX11_shrink_94 : decode cX11_shrink 94 = .ok (.iinc 3 1, 3) := by decide +kernel
theorem dX11_shrink_97 : decode cX11_shrink 97 = .ok (.iinc 4 1, 3) := by decide +kernel
theorem dX11_shrink_100 : decode cX11_shrink 100 = .ok (.goto (-95), 3) := by decide +kernel
theorem dX11_shrink_103 : decode cX11_shrink 103 = .ok (.iload_n 3, 1) := by decide +kernel
theorem dX11_shrink_104 : decode cX11_shrink 104 = .ok (.aload_n 0, 1) := by decide +kernel
theorem dX11_shrink_105 : decode cX11_shrink 105 = .ok (.iload_n 1, 1) := by decide +kernel
theorem dX11_shrink_106 : decode cX11_shrink 106 = .ok (.invokevirtual 437, 3) := by decide +kernel
theorem dX11_shrink_109 : decode cX11_shrink 109 = .ok (.iadd, 1) := by decide +kernel
theorem dX11_shrink_110 : decode cX11_shrink 110 = .ok (.ireturn, 1) := by decide +kernel
theorem dX11_cut_0 : decode cX11_cut 0 = .ok (.aload_n 0, 1) := by decide +kernel
theorem dX11_cut_1 : decode cX11_cut 1 = .ok (.invokevirtual 333, 3) := by decide +kernel
theorem dX11_cut_4 : decode cX11_cut 4 = .ok (.ifCond .ne 6, 3) := by decide +kernel
theorem dX11_cut_7 : decode cX11_cut 7 = .ok (.bipush (-99), 2) := by decide +kernel
theorem dX11_cut_9 : decode cX11_cut 9 = .ok (.ireturn, 1) := by decide +kernel
theorem dX11_cut_10 : decode cX11_cut 10 = .ok (.aload_n 0, 1) := by decide +kernel
theorem dX11_cut_11 : decode cX11_cut 11 = .ok (.iload_n 1, 1) := by decide +kernel
theorem dX11_cut_12 : decode cX11_cut 12 = .ok (.iconst 0, 1) := by decide +kernel
theorem dX11_cut_13 : decode cX11_cut 13 = .ok (.invokevirtual 373, 3) := by decide +kernel
theorem dX11_cut_16 : decode cX11_cut 16 = .ok (.ifCond .ne 6, 3) := by decide +kernel
theorem dX11_cut_19 : decode cX11_cut 19 = .ok (.bipush (-14), 2) := by decide +kernel
theorem dX11_cut_21 : decode cX11_cut 21 = .ok (.ireturn, 1) := by decide +kernel
theorem dX11_cut_22 : decode cX11_cut 22 = .ok (.aload_n 0, 1) := by decide +kernel
theorem dX11_cut_23 : decode cX11_cut 23 = .ok (.iload_n 1, 1) := by decide +kernel
theorem dX11_cut_24 : decode cX11_cut 24 = .ok (.iconst 2, 1) := by decide +kernel
theorem dX11_cut_25 : decode cX11_cut 25 = .ok (.invokevirtual 346, 3) := by decide +kernel
theorem dX11_cut_28 : decode cX11_cut 28 = .ok (.ifCond .ne 6, 3) := by decide +kernel
theorem dX11_cut_31 : decode cX11_cut 31 = .ok (.bipush (-20), 2) := by decide +kernel
theorem dX11_cut_33 : decode cX11_cut 33 = .ok (.ireturn, 1) := by decide +kernel
theorem dX11_cut_34 : decode cX11_cut 34 = .ok (.iload_n 2, 1) := by decide +kernel
theorem dX11_cut_35 : decode cX11_cut 35 = .ok (.ifCond .lt 13, 3) := by decide +kernel
theorem dX11_cut_38 : decode cX11_cut 38 = .ok (.iload_n 2, 1) := by decide +kernel
theorem dX11_cut_39 : decode cX11_cut 39 = .ok (.aload_n 0, 1) := by decide +kernel
theorem dX11_cut_40 : decode cX11_cut 40 = .ok (.getfield 43, 3) := by decide +kernel
theorem dX11_cut_43 : decode cX11_cut 43 = .ok (.iload_n 1, 1) := by decide +kernel
theorem dX11_cut_44 : decode cX11_cut 44 = .ok (.iaload, 1) := by decide +kernel
theorem dX11_cut_45 : decode cX11_cut 45 = .ok (.if_icmp .le 6, 3) := by decide +kernel
theorem dX11_cut_48 : decode cX11_cut 48 = .ok (.bipush (-15), 2) := by decide +kernel
theorem dX11_cut_50 : decode cX11_cut 50 = .ok (.ireturn, 1) := by decide +kernel
theorem dX11_cut_51 : decode cX11_cut 51 = .ok (.iload_n 2, 1) := by decide +kernel
theorem dX11_cut_52 : decode cX11_cut 52 = .ok (.aload_n 0, 1) := by decide +kernel
theorem dX11_cut_53 : decode cX11_cut 53 = .ok (.getfield 43, 3) := by decide +kernel
theorem dX11_cut_56 : decode cX11_cut 56 = .ok (.iload_n 1, 1) := by decide +kernel
theorem dX11_cut_57 : decode cX11_cut 57 = .ok (.iaload, 1) := by decide +kernel
theorem dX11_cut_58 : decode cX11_cut 58 = .ok (.if_icmp .ne 5, 3) := by decide +kernel
theorem dX11_cut_61 : decode cX11_cut 61 = .ok (.iconst 0, 1) := by decide +kernel
theorem dX11_cut_62 : decode cX11_cut 62 = .ok (.ireturn, 1) := by decide +kernel
theorem dX11_cut_63 : decode cX11_cut 63 = .ok (.aload_n 0, 1) := by decide +kernel
theorem dX11_cut_64 : decode cX11_cut 64 = .ok (.iload_n 1, 1) := by decide +kernel
theorem dX11_cut_65 : decode cX11_cut 65 = .ok (.iload_n 2, 1) := by decide +kernel
theorem dX11_cut_66 : decode cX11_cut 66 = .ok (.bipush 63, 2) := by decide +kernel
theorem dX11_cut_68 : decode cX11_cut 68 = .ok (.iadd, 1) := by decide +kernel
theorem dX11_cut_69 : decode cX11_cut 69 = .ok (.bipush 64, 2) := by decide +kernel
theorem dX11_cut_71 : decode cX11_cut 71 = .ok (.idiv, 1) := by decide +kernel
theorem dX11_cut_72 : decode cX11_cut 72 = .ok (.invokevirtual 431, 3) := by decide +kernel
theorem dX11_cut_75 : decode cX11_cut 75 = .ok (.istore_n 3, 1) := by decide +kernel
theorem dX11_cut_76 : decode cX11_cut 76 = .ok (.iload_n 2, 1) := by decide +kernel
theorem dX11_cut_77 : decode cX11_cut 77 = .ok (.bipush 64, 2) := by decide +kernel
theorem dX11_cut_79 : decode cX11_cut 79 = .ok (.irem, 1) := by decide +kernel
theorem dX11_cut_80 : decode cX11_cut 80 = .ok (.ifCond .ne 7, 3) := by decide +kernel
theorem dX11_cut_83 : decode cX11_cut 83 = .ok (.iconst (-1), 1) := by decide +kernel
theorem dX11_cut_84 : decode cX11_cut 84 = .ok (.goto 18, 3) := by decide +kernel
theorem dX11_cut_87 : decode cX11_cut 87 = .ok (.aload_n 0, 1) := by decide +kernel
theorem dX11_cut_88 : decode cX11_cut 88 = .ok (.getfield 53, 3) := by decide +kernel
theorem dX11_cut_91 : decode cX11_cut 91 = .ok (.sipush 1068, 3) := by decide +kernel
theorem dX11_cut_94 : decode cX11_cut 94 = .ok (.iload_n 1, 1) := by decide +kernel
theorem dX11_cut_95 : decode cX11_cut 95 = .ok (.imul, 1) := by decide +kernel
theorem dX11_cut_96 : decode cX11_cut 96 = .ok (.iload_n 2, 1) := by decide +kernel
theorem dX11_cut_97 : decode cX11_cut 97 = .ok (.bipush 64, 2) := by decide +kernel
theorem dX11_cut_99 : decode cX11_cut 99 = .ok (.idiv, 1) := by decide +kernel
theorem dX11_cut_100 : decode cX11_cut 100 = .ok (.iadd, 1) := by decide +kernel
theorem dX11_cut_101 : decode cX11_cut 101 = .ok (.iaload, 1) := by decide +kernel
theorem dX11_cut_102 : decode cX11_cut 102 = .ok (.istore 4, 2) := by decide +kernel
theorem dX11_cut_104 : decode cX11_cut 104 = .ok (.iload 4, 2) := by decide +kernel
theorem dX11_cut_106 : decode cX11_cut 106 = .ok (.iconst (-1), 1) := by decide +kernel
theorem dX11_cut_107 : decode cX11_cut 107 = .ok (.if_icmp .eq 48, 3) := by decide +kernel
theorem dX11_cut_110 : decode cX11_cut 110 = .ok (.bipush 64, 2) := by decide +kernel
theorem dX11_cut_112 : decode cX11_cut 112 = .ok (.iload 4, 2) := by decide +kernel
theorem dX11_cut_114 : decode cX11_cut 114 = .ok (.imul, 1) := by decide +kernel
theorem dX11_cut_115 : decode cX11_cut 115 = .ok (.iload_n 2, 1) := by decide +kernel
theorem dX11_cut_116 : decode cX11_cut 116 = .ok (.bipush 64, 2) := by decide +kernel
theorem dX11_cut_118 : decode cX11_cut 118 = .ok (.irem, 1) := by decide +kernel
theorem dX11_cut_119 : decode cX11_cut 119 = .ok (.iadd, 1) := by decide +kernel
theorem dX11_cut_120 : decode cX11_cut 120 = .ok (.istore 5, 2) := by decide +kernel
theorem dX11_cut_122 : decode cX11_cut 122 = .ok (.iload 5, 2) := by decide +kernel
theorem dX11_cut_124 : decode cX11_cut 124 = .ok (.bipush 64, 2) := by decide +kernel
theorem dX11_cut_126 : decode cX11_cut 126 = .ok (.iload 4, 2) := by decide +kernel
theorem dX11_cut_128 : decode cX11_cut 128 = .ok (.imul, 1) := by decide +kernel
theorem dX11_cut_129 : decode cX11_cut 129 = .ok (.bipush 64, 2) := by decide +kernel
theorem dX11_cut_131 : decode cX11_cut 131 = .ok (.iadd, 1) := by decide +kernel
theorem dX11_cut_132 : decode cX11_cut 132 = .ok (.if_icmp .ge 17, 3) := by decide +kernel
theorem dX11_cut_135 : decode cX11_cut 135 = .ok (.aload_n 0, 1) := by decide +kernel
theorem dX11_cut_136 : decode cX11_cut 136 = .ok (.getfield 86, 3) := by decide +kernel
theorem dX11_cut_139 : decode cX11_cut 139 = .ok (.iload 5, 2) := by decide +kernel
theorem dX11_cut_141 : decode cX11_cut 141 = .ok (.iconst 0, 1) := by decide +kernel
theorem dX11_cut_142 : decode cX11_cut 142 = .ok (.bastore, 1) := by decide +kernel
theorem dX11_cut_143 : decode cX11_cut 143 = .ok (.iinc 5 1, 3) := by decide +kernel
theorem dX11_cut_146 : decode cX11_cut 146 = .ok (.goto (-24), 3) := by decide +kernel
theorem dX11_cut_149 : decode cX11_cut 149 = .ok (.aload_n 0, 1) := by decide +kernel
theorem dX11_cut_150 : decode cX11_cut 150 = .ok (.iload 4, 2) := by decide +kernel
theorem dX11_cut_152 : decode cX11_cut 152 = .ok (.invokevirtual 294, 3) := by decide +kernel
theorem dX11_cut_155 : decode cX11_cut 155 = .ok (.aload_n 0, 1) := by decide +kernel
theorem dX11_cut_156 : decode cX11_cut 156 = .ok (.getfield 43, 3) := by decide +kernel
theorem dX11_cut_159 : decode cX11_cut 159 = .ok (.iload_n 1, 1) := by decide +kernel
theorem dX11_cut_160 : decode cX11_cut 160 = .ok (.iload_n 2, 1) := by decide +kernel
theorem dX11_cut_161 : decode cX11_cut 161 = .ok (.iastore, 1) := by decide +kernel
theorem dX11_cut_162 : decode cX11_cut 162 = .ok (.aload_n 0, 1) := by decide +kernel
theorem dX11_cut_163 : decode cX11_cut 163 = .ok (.iload_n 1, 1) := by decide +kernel
theorem dX11_cut_164 : decode cX11_cut 164 = .ok (.invokevirtual 324, 3) := by decide +kernel
theorem dX11_cut_167 : decode cX11_cut 167 = .ok (.iload_n 3, 1) := by decide +kernel
theorem dX11_cut_168 : decode cX11_cut 168 = .ok (.ireturn, 1) := by decide +kernel
theorem dX11_undo_0 : decode cX11_undo 0 = .ok (.aload_n 0, 1) := by decide +kernel
theorem dX11_undo_1 : decode cX11_undo 1 = .ok (.getfield 49, 3) := by decide +kernel
theorem dX11_undo_4 : decode cX11_undo 4 = .ok (.iload_n 1, 1) := by decide +kernel
theorem dX11_undo_5 : decode cX11_undo 5 = .ok (.iaload, 1) := by decide +kernel
theorem dX11_undo_6 : decode cX11_undo 6 = .ok (.istore_n 2, 1) := by decide +kernel
theorem dX11_undo_7 : decode cX11_undo 7 = .ok (.iconst 0, 1) := by decide +kernel
theorem dX11_undo_8 : decode cX11_undo 8 = .ok (.istore_n 3, 1) := by decide +kernel
theorem dX11_undo_9 : decode cX11_undo 9 = .ok (.iload_n 3, 1) := by decide +kernel
theorem dX11_undo_10 : decode cX11_undo 10 = .ok (.iload_n 2, 1) := by decide +kernel
theorem dX11_undo_11 : decode cX11_undo 11 = .ok (.if_icmp .ge 24, 3) := by decide +kernel
theorem dX11_undo_14 : decode cX11_undo 14 = .ok (.aload_n 0, 1) := by decide +kernel
theorem dX11_undo_15 : decode cX11_undo 15 = .ok (.aload_n 0, 1) := by decide +kernel
theorem dX11_undo_16 : decode cX11_undo 16 = .ok (.getfield 65, 3) := by decide +kernel
theorem dX11_undo_19 : decode cX11_undo 19 = .ok (.bipush 12, 2) := by decide +kernel
theorem dX11_undo_21 : decode cX11_undo 21 = .ok (.iload_n 1, 1) := by decide +kernel
theorem dX11_undo_22 : decode cX11_undo 22 = .ok (.imul, 1) := by decide +kernel
theorem dX11_undo_23 : decode cX11_undo 23 = .ok (.iload_n 3, 1) := by decide +kernel
theorem dX11_undo_24 : decode cX11_undo 24 = .ok (.iadd, 1) := by decide +kernel
theorem dX11_undo_25 : decode cX11_undo 25 = .ok (.iaload, 1) := by decide +kernel
theorem dX11_undo_26 : decode cX11_undo 26 = .ok (.invokevirtual 434, 3) := by decide +kernel
theorem dX11_undo_29 : decode cX11_undo 29 = .ok (.iinc 3 1, 3) := by decide +kernel
theorem dX11_undo_32 : decode cX11_undo 32 = .ok (.goto (-23), 3) := by decide +kernel
theorem dX11_undo_35 : decode cX11_undo 35 = .ok (.aload_n 0, 1) := by decide +kernel
theorem dX11_undo_36 : decode cX11_undo 36 = .ok (.getfield 49, 3) := by decide +kernel
theorem dX11_undo_39 : decode cX11_undo 39 = .ok (.iload_n 1, 1) := by decide +kernel
theorem dX11_undo_40 : decode cX11_undo 40 = .ok (.iconst 0, 1) := by decide +kernel
theorem dX11_undo_41 : decode cX11_undo 41 = .ok (.iastore, 1) := by decide +kernel
theorem dX11_undo_42 : decode cX11_undo 42 = .ok (.iload_n 2, 1) := by decide +kernel
theorem dX11_undo_43 : decode cX11_undo 43 = .ok (.ireturn, 1) := by decide +kernel
theorem dX11_unlay_0 : decode cX11_unlay 0 = .ok (.aload_n 0, 1) := by decide +kernel
theorem dX11_unlay_1 : decode cX11_unlay 1 = .ok (.getfield 65, 3) := by decide +kernel
theorem dX11_unlay_4 : decode cX11_unlay 4 = .ok (.bipush 12, 2) := by decide +kernel
theorem dX11_unlay_6 : decode cX11_unlay 6 = .ok (.iload_n 1, 1) := by decide +kernel
theorem dX11_unlay_7 : decode cX11_unlay 7 = .ok (.imul, 1) := by decide +kernel
theorem dX11_unlay_8 : decode cX11_unlay 8 = .ok (.iaload, 1) := by decide +kernel
theorem dX11_unlay_9 : decode cX11_unlay 9 = .ok (.istore_n 2, 1) := by decide +kernel
theorem dX11_unlay_10 : decode cX11_unlay 10 = .ok (.iload_n 2, 1) := by decide +kernel
theorem dX11_unlay_11 : decode cX11_unlay 11 = .ok (.aload_n 0, 1) := by decide +kernel
theorem dX11_unlay_12 : decode cX11_unlay 12 = .ok (.getfield 65, 3) := by decide +kernel
theorem dX11_unlay_15 : decode cX11_unlay 15 = .ok (.bipush 12, 2) := by decide +kernel
theorem dX11_unlay_17 : decode cX11_unlay 17 = .ok (.iload_n 1, 1) := by decide +kernel
theorem dX11_unlay_18 : decode cX11_unlay 18 = .ok (.imul, 1) := by decide +kernel
theorem dX11_unlay_19 : decode cX11_unlay 19 = .ok (.iaload, 1) := by decide +kernel
theorem dX11_unlay_20 : decode cX11_unlay 20 = .ok (.aload_n 0, 1) := by decide +kernel
theorem dX11_unlay_21 : decode cX11_unlay 21 = .ok (.getfield 165, 3) := by decide +kernel
theorem dX11_unlay_24 : decode cX11_unlay 24 = .ok (.iadd, 1) := by decide +kernel
theorem dX11_unlay_25 : decode cX11_unlay 25 = .ok (.if_icmp .ge 14, 3) := by decide +kernel
theorem dX11_unlay_28 : decode cX11_unlay 28 = .ok (.aload_n 0, 1) := by decide +kernel
theorem dX11_unlay_29 : decode cX11_unlay 29 = .ok (.iload_n 2, 1) := by decide +kernel
theorem dX11_unlay_30 : decode cX11_unlay 30 = .ok (.invokevirtual 434, 3) := by decide +kernel
theorem dX11_unlay_33 : decode cX11_unlay 33 = .ok (.iinc 2 1, 3) := by decide +kernel
theorem dX11_unlay_36 : decode cX11_unlay 36 = .ok (.goto (-26), 3) := by decide +kernel
theorem dX11_unlay_39 : decode cX11_unlay 39 = .ok (.aload_n 0, 1) := by decide +kernel
theorem dX11_unlay_40 : decode cX11_unlay 40 = .ok (.getfield 165, 3) := by decide +kernel
theorem dX11_unlay_43 : decode cX11_unlay 43 = .ok (.ireturn, 1) := by decide +kernel
theorem dX11_dropSlot_0 : decode cX11_dropSlot 0 = .ok (.aload_n 0, 1) := by decide +kernel
theorem dX11_dropSlot_1 : decode cX11_dropSlot 1 = .ok (.getfield 68, 3) := by decide +kernel
theorem dX11_dropSlot_4 : decode cX11_dropSlot 4 = .ok (.iload_n 1, 1) := by decide +kernel
theorem dX11_dropSlot_5 : decode cX11_dropSlot 5 = .ok (.iaload, 1) := by decide +kernel
theorem dX11_dropSlot_6 : decode cX11_dropSlot 6 = .ok (.istore_n 2, 1) := by decide +kernel
theorem dX11_dropSlot_7 : decode cX11_dropSlot 7 = .ok (.aload_n 0, 1) := by decide +kernel
theorem dX11_dropSlot_8 : decode cX11_dropSlot 8 = .ok (.getfield 68, 3) := by decide +kernel
theorem dX11_dropSlot_11 : decode cX11_dropSlot 11 = .ok (.iload_n 1, 1) := by decide +kernel
theorem dX11_dropSlot_12 : decode cX11_dropSlot 12 = .ok (.iconst (-1), 1) := by decide +kernel
theorem dX11_dropSlot_13 : decode cX11_dropSlot 13 = .ok (.iastore, 1) := by decide +kernel
theorem dX11_dropSlot_14 : decode cX11_dropSlot 14 = .ok (.aload_n 0, 1) := by decide +kernel
theorem dX11_dropSlot_15 : decode cX11_dropSlot 15 = .ok (.iload_n 1, 1) := by decide +kernel
theorem dX11_dropSlot_16 : decode cX11_dropSlot 16 = .ok (.invokevirtual 327, 3) := by decide +kernel
theorem dX11_dropSlot_19 : decode cX11_dropSlot 19 = .ok (.aload_n 0, 1) := by decide +kernel
theorem dX11_dropSlot_20 : decode cX11_dropSlot 20 = .ok (.iload_n 2, 1) := by decide +kernel
theorem dX11_dropSlot_21 : decode cX11_dropSlot 21 = .ok (.invokevirtual 324, 3) := by decide +kernel
theorem dX11_dropSlot_24 : decode cX11_dropSlot 24 = .ok (.aload_n 0, 1) := by decide +kernel
theorem dX11_dropSlot_25 : decode cX11_dropSlot 25 = .ok (.getfield 75, 3) := by decide +kernel
theorem dX11_dropSlot_28 : decode cX11_dropSlot 28 = .ok (.iload_n 2, 1) := by decide +kernel
theorem dX11_dropSlot_29 : decode cX11_dropSlot 29 = .ok (.dup2, 1) := by decide +kernel
theorem dX11_dropSlot_30 : decode cX11_dropSlot 30 = .ok (.iaload, 1) := by decide +kernel
theorem dX11_dropSlot_31 : decode cX11_dropSlot 31 = .ok (.iconst 1, 1) := by decide +kernel
theorem dX11_dropSlot_32 : decode cX11_dropSlot 32 = .ok (.isub, 1) := by decide +kernel
theorem dX11_dropSlot_33 : decode cX11_dropSlot 33 = .ok (.iastore, 1) := by decide +kernel
theorem dX11_dropSlot_34 : decode cX11_dropSlot 34 = .ok (.aload_n 0, 1) := by decide +kernel
theorem dX11_dropSlot_35 : decode cX11_dropSlot 35 = .ok (.getfield 75, 3) := by decide +kernel
theorem dX11_dropSlot_38 : decode cX11_dropSlot 38 = .ok (.iload_n 2, 1) := by decide +kernel
theorem dX11_dropSlot_39 : decode cX11_dropSlot 39 = .ok (.iaload, 1) := by decide +kernel
theorem dX11_dropSlot_40 : decode cX11_dropSlot 40 = .ok (.ifCond .le 5, 3) := by decide +kernel
theorem dX11_dropSlot_43 : decode cX11_dropSlot 43 = .ok (.iconst 0, 1) := by decide +kernel
theorem dX11_dropSlot_44 : decode cX11_dropSlot 44 = .ok (.ireturn, 1) := by decide +kernel
theorem dX11_dropSlot_45 : decode cX11_dropSlot 45 = .ok (.aload_n 0, 1) := by decide +kernel
theorem dX11_dropSlot_46 : decode cX11_dropSlot 46 = .ok (.getfield 40, 3) := by decide +kernel
theorem dX11_dropSlot_49 : decode cX11_dropSlot 49 = .ok (.iload_n 2, 1) := by decide +kernel
theorem dX11_dropSlot_50 : decode cX11_dropSlot 50 = .ok (.iaload, 1) := by decide +kernel
theorem dX11_dropSlot_51 : decode cX11_dropSlot 51 = .ok (.iconst 3, 1) := by decide +kernel
theorem dX11_dropSlot_52 : decode cX11_dropSlot 52 = .ok (.if_icmp .ne 11, 3) := by decide +kernel
theorem dX11_dropSlot_55 : decode cX11_dropSlot 55 = .ok (.aload_n 0, 1) := by decide +kernel
theorem dX11_dropSlot_56 : decode cX11_dropSlot 56 = .ok (.iload_n 2, 1) := by decide +kernel
theorem dX11_dropSlot_57 : decode cX11_dropSlot 57 = .ok (.invokevirtual 449, 3) := by decide +kernel
theorem dX11_dropSlot_60 : decode cX11_dropSlot 60 = .ok (.goto 27, 3) := by decide +kernel
theorem dX11_dropSlot_63 : decode cX11_dropSlot 63 = .ok (.aload_n 0, 1) := by decide +kernel
theorem dX11_dropSlot_64 : decode cX11_dropSlot 64 = .ok (.getfield 40, 3) := by decide +kernel
theorem dX11_dropSlot_67 : decode cX11_dropSlot 67 = .ok (.iload_n 2, 1) := by decide +kernel
theorem dX11_dropSlot_68 : decode cX11_dropSlot 68 = .ok (.iaload, 1) := by decide +kernel
theorem dX11_dropSlot_69 : decode cX11_dropSlot 69 = .ok (.iconst 2, 1) := by decide +kernel
theorem dX11_dropSlot_70 : decode cX11_dropSlot 70 = .ok (.if_icmp .ne 11, 3) := by decide +kernel
theorem dX11_dropSlot_73 : decode cX11_dropSlot 73 = .ok (.aload_n 0, 1) := by decide +kernel
theorem dX11_dropSlot_74 : decode cX11_dropSlot 74 = .ok (.iload_n 2, 1) := by decide +kernel
theorem dX11_dropSlot_75 : decode cX11_dropSlot 75 = .ok (.invokevirtual 452, 3) := by decide +kernel
theorem dX11_dropSlot_78 : decode cX11_dropSlot 78 = .ok (.goto 9, 3) := by decide +kernel
theorem dX11_dropSlot_81 : decode cX11_dropSlot 81 = .ok (.aload_n 0, 1) := by decide +kernel
theorem dX11_dropSlot_82 : decode cX11_dropSlot 82 = .ok (.iload_n 2, 1) := by decide +kernel
theorem dX11_dropSlot_83 : decode cX11_dropSlot 83 = .ok (.iconst 0, 1) := by decide +kernel
theorem dX11_dropSlot_84 : decode cX11_dropSlot 84 = .ok (.invokevirtual 431, 3) := by decide +kernel
theorem dX11_dropSlot_87 : decode cX11_dropSlot 87 = .ok (.istore_n 3, 1) := by decide +kernel
theorem dX11_dropSlot_88 : decode cX11_dropSlot 88 = .ok (.aload_n 0, 1) := by decide +kernel
theorem dX11_dropSlot_89 : decode cX11_dropSlot 89 = .ok (.getfield 40, 3) := by decide +kernel
theorem dX11_dropSlot_92 : decode cX11_dropSlot 92 = .ok (.iload_n 2, 1) := by decide +kernel
theorem dX11_dropSlot_93 : decode cX11_dropSlot 93 = .ok (.iconst 0, 1) := by decide +kernel
theorem dX11_dropSlot_94 : decode cX11_dropSlot 94 = .ok (.iastore, 1) := by decide +kernel
theorem dX11_dropSlot_95 : decode cX11_dropSlot 95 = .ok (.iload_n 3, 1) := by decide +kernel
theorem dX11_dropSlot_96 : decode cX11_dropSlot 96 = .ok (.ireturn, 1) := by decide +kernel
theorem dX11_names_0 : decode cX11_names 0 = .ok (.iconst 0, 1) := by decide +kernel
theorem dX11_names_1 : decode cX11_names 1 = .ok (.istore_n 2, 1) := by decide +kernel
theorem dX11_names_2 : decode cX11_names 2 = .ok (.bipush 48, 2) := by decide +kernel
theorem dX11_names_4 : decode cX11_names 4 = .ok (.iload_n 1, 1) := by decide +kernel
theorem dX11_names_5 : decode cX11_names 5 = .ok (.imul, 1) := by decide +kernel
theorem dX11_names_6 : decode cX11_names 6 = .ok (.istore_n 3, 1) := by decide +kernel
theorem dX11_names_7 : decode cX11_names 7 = .ok (.iload_n 3, 1) := by decide +kernel
theorem dX11_names_8 : decode cX11_names 8 = .ok (.bipush 48, 2) := by decide +kernel
theorem dX11_names_10 : decode cX11_names 10 = .ok (.iload_n 1, 1) := by decide +kernel
theorem dX11_names_11 : decode cX11_names 11 = .ok (.imul, 1) := by decide +kernel
theorem dX11_names_12 : decode cX11_names 12 = .ok (.aload_n 0, 1) := by decide +kernel
theorem dX11_names_13 : decode cX11_names 13 = .ok (.iload_n 1, 1) := by decide +kernel
theorem dX11_names_14 : decode cX11_names 14 = .ok (.invokevirtual 315, 3) := by decide +kernel
theorem dX11_names_17 : decode cX11_names 17 = .ok (.iadd, 1) := by decide +kernel
theorem dX11_names_18 : decode cX11_names 18 = .ok (.if_icmp .ge 27, 3) := by decide +kernel
theorem dX11_names_21 : decode cX11_names 21 = .ok (.iload_n 2, 1) := by decide +kernel
theorem dX11_names_22 : decode cX11_names 22 = .ok (.aload_n 0, 1) := by decide +kernel
theorem dX11_names_23 : decode cX11_names 23 = .ok (.getfield 68, 3) := by decide +kernel
theorem dX11_names_26 : decode cX11_names 26 = .ok (.iload_n 3, 1) := by decide +kernel
theorem dX11_names_27 : decode cX11_names 27 = .ok (.iaload, 1) := by decide +kernel
theorem dX11_names_28 : decode cX11_names 28 = .ok (.iconst (-1), 1) := by decide +kernel
theorem dX11_names_29 : decode cX11_names 29 = .ok (.if_icmp .ne 7, 3) := by decide +kernel
theorem dX11_names_32 : decode cX11_names 32 = .ok (.iconst 0, 1) := by decide +kernel
theorem dX11_names_33 : decode cX11_names 33 = .ok (.goto 4, 3) := by decide +kernel
theorem dX11_names_36 : decode cX11_names 36 = .ok (.iconst 1, 1) := by decide +kernel
theorem dX11_names_37 : decode cX11_names 37 = .ok (.iadd, 1) := by decide +kernel
theorem dX11_names_38 : decode cX11_names 38 = .ok (.istore_n 2, 1) := by decide +kernel
theorem dX11_names_39 : decode cX11_names 39 = .ok (.iinc 3 1, 3) := by decide +kernel
theorem dX11_names_42 : decode cX11_names 42 = .ok (.goto (-35), 3) := by decide +kernel
theorem dX11_names_45 : decode cX11_names 45 = .ok (.iload_n 2, 1) := by decide +kernel
theorem dX11_names_46 : decode cX11_names 46 = .ok (.ireturn, 1) := by decide +kernel
theorem dX11_drop_0 : decode cX11_drop 0 = .ok (.aload_n 0, 1) := by decide +kernel
theorem dX11_drop_1 : decode cX11_drop 1 = .ok (.invokevirtual 333, 3) := by decide +kernel
theorem dX11_drop_4 : decode cX11_drop 4 = .ok (.ifCond .ne 6, 3) := by decide +kernel
theorem dX11_drop_7 : decode cX11_drop 7 = .ok (.bipush (-99), 2) := by decide +kernel
theorem dX11_drop_9 : decode cX11_drop 9 = .ok (.ireturn, 1) := by decide +kernel
theorem dX11_drop_10 : decode cX11_drop 10 = .ok (.aload_n 0, 1) := by decide +kernel
theorem dX11_drop_11 : decode cX11_drop 11 = .ok (.iload_n 1, 1) := by decide +kernel
theorem dX11_drop_12 : decode cX11_drop 12 = .ok (.invokevirtual 339, 3) := by decide +kernel
theorem dX11_drop_15 : decode cX11_drop 15 = .ok (.ifCond .ne 6, 3) := by decide +kernel
theorem dX11_drop_18 : decode cX11_drop 18 = .ok (.bipush (-10), 2) := by decide +kernel
theorem dX11_drop_20 : decode cX11_drop 20 = .ok (.ireturn, 1) := by decide +kernel
theorem dX11_drop_21 : decode cX11_drop 21 = .ok (.lload_n 2, 1) := by decide +kernel
theorem dX11_drop_22 : decode cX11_drop 22 = .ok (.invokestatic 342, 3) := by decide +kernel
theorem dX11_drop_25 : decode cX11_drop 25 = .ok (.ifCond .ne 6, 3) := by decide +kernel
theorem dX11_drop_28 : decode cX11_drop 28 = .ok (.bipush (-11), 2) := by decide +kernel
theorem dX11_drop_30 : decode cX11_drop 30 = .ok (.ireturn, 1) := by decide +kernel
theorem dX11_drop_31 : decode cX11_drop 31 = .ok (.aload_n 0, 1) := by decide +kernel
theorem dX11_drop_32 : decode cX11_drop 32 = .ok (.iload_n 1, 1) := by decide +kernel
theorem dX11_drop_33 : decode cX11_drop 33 = .ok (.iconst 3, 1) := by decide +kernel
theorem dX11_drop_34 : decode cX11_drop 34 = .ok (.invokevirtual 346, 3) := by decide +kernel
theorem dX11_drop_37 : decode cX11_drop 37 = .ok (.ifCond .ne 6, 3) := by decide +kernel
theorem dX11_drop_40 : decode cX11_drop 40 = .ok (.bipush (-20), 2) := by decide +kernel
theorem dX11_drop_42 : decode cX11_drop 42 = .ok (.ireturn, 1) := by decide +kernel
theorem dX11_drop_43 : decode cX11_drop 43 = .ok (.aload_n 0, 1) := by decide +kernel
theorem dX11_drop_44 : decode cX11_drop 44 = .ok (.iload_n 1, 1) := by decide +kernel
theorem dX11_drop_45 : decode cX11_drop 45 = .ok (.lload_n 2, 1) := by decide +kernel
theorem dX11_drop_46 : decode cX11_drop 46 = .ok (.invokevirtual 349, 3) := by decide +kernel
theorem dX11_drop_49 : decode cX11_drop 49 = .ok (.istore 4, 2) := by decide +kernel
theorem dX11_drop_51 : decode cX11_drop 51 = .ok (.iload 4, 2) := by decide +kernel
theorem dX11_drop_53 : decode cX11_drop 53 = .ok (.iconst (-1), 1) := by decide +kernel
theorem dX11_drop_54 : decode cX11_drop 54 = .ok (.if_icmp .ne 6, 3) := by decide +kernel
theorem dX11_drop_57 : decode cX11_drop 57 = .ok (.bipush (-12), 2) := by decide +kernel
theorem dX11_drop_59 : decode cX11_drop 59 = .ok (.ireturn, 1) := by decide +kernel
theorem dX11_drop_60 : decode cX11_drop 60 = .ok (.aload_n 0, 1) := by decide +kernel
theorem dX11_drop_61 : decode cX11_drop 61 = .ok (.getfield 68, 3) := by decide +kernel
theorem dX11_drop_64 : decode cX11_drop 64 = .ok (.iload 4, 2) := by decide +kernel
theorem dX11_drop_66 : decode cX11_drop 66 = .ok (.iaload, 1) := by decide +kernel
theorem dX11_drop_67 : decode cX11_drop 67 = .ok (.istore 5, 2) := by decide +kernel
theorem dX11_drop_69 : decode cX11_drop 69 = .ok (.aload_n 0, 1) := by decide +kernel
theorem dX11_drop_70 : decode cX11_drop 70 = .ok (.getfield 40, 3) := by decide +kernel
theorem dX11_drop_73 : decode cX11_drop 73 = .ok (.iload 5, 2) := by decide +kernel
theorem dX11_drop_75 : decode cX11_drop 75 = .ok (.iaload, 1) := by decide +kernel
theorem dX11_drop_76 : decode cX11_drop 76 = .ok (.iconst 2, 1) := by decide +kernel
theorem dX11_drop_77 : decode cX11_drop 77 = .ok (.if_icmp .ne 15, 3) := by decide +kernel
theorem dX11_drop_80 : decode cX11_drop 80 = .ok (.aload_n 0, 1) := by decide +kernel
theorem dX11_drop_81 : decode cX11_drop 81 = .ok (.iload 5, 2) := by decide +kernel
theorem dX11_drop_83 : decode cX11_drop 83 = .ok (.invokevirtual 443, 3) := by decide +kernel
theorem dX11_drop_86 : decode cX11_drop 86 = .ok (.ifCond .le 6, 3) := by decide +kernel
theorem dX11_drop_89 : decode cX11_drop 89 = .ok (.bipush (-17), 2) := by decide +kernel
theorem dX11_drop_91 : decode cX11_drop 91 = .ok (.ireturn, 1) := by decide +kernel
theorem dX11_drop_92 : decode cX11_drop 92 = .ok (.aload_n 0, 1) := by decide +kernel
theorem dX11_drop_93 : decode cX11_drop 93 = .ok (.iload 4, 2) := by decide +kernel
theorem dX11_drop_95 : decode cX11_drop 95 = .ok (.invokevirtual 446, 3) := by decide +kernel
theorem dX11_drop_98 : decode cX11_drop 98 = .ok (.ireturn, 1) := by decide +kernel
theorem dX11_isIn_0 : decode cX11_isIn 0 = .ok (.iload_n 1, 1) := by decide +kernel
theorem dX11_isIn_1 : decode cX11_isIn 1 = .ok (.istore_n 3, 1) := by decide +kernel
theorem dX11_isIn_2 : decode cX11_isIn 2 = .ok (.iload_n 3, 1) := by decide +kernel
theorem dX11_isIn_3 : decode cX11_isIn 3 = .ok (.iload_n 2, 1) := by decide +kernel
theorem dX11_isIn_4 : decode cX11_isIn 4 = .ok (.if_icmp .eq 17, 3) := by decide +kernel
theorem dX11_isIn_7 : decode cX11_isIn 7 = .ok (.iload_n 3, 1) := by decide +kernel
theorem dX11_isIn_8 : decode cX11_isIn 8 = .ok (.ifCond .eq 13, 3) := by decide +kernel
theorem dX11_isIn_11 : decode cX11_isIn 11 = .ok (.aload_n 0, 1) := by decide +kernel
theorem dX11_isIn_12 : decode cX11_isIn 12 = .ok (.getfield 46, 3) := by decide +kernel
theorem dX11_isIn_15 : decode cX11_isIn 15 = .ok (.iload_n 3, 1) := by decide +kernel
theorem dX11_isIn_16 : decode cX11_isIn 16 = .ok (.iaload, 1) := by decide +kernel
theorem dX11_isIn_17 : decode cX11_isIn 17 = .ok (.istore_n 3, 1) := by decide +kernel
theorem dX11_isIn_18 : decode cX11_isIn 18 = .ok (.goto (-16), 3) := by decide +kernel
theorem dX11_isIn_21 : decode cX11_isIn 21 = .ok (.iload_n 3, 1) := by decide +kernel
theorem dX11_isIn_22 : decode cX11_isIn 22 = .ok (.iload_n 2, 1) := by decide +kernel
theorem dX11_isIn_23 : decode cX11_isIn 23 = .ok (.if_icmp .ne 7, 3) := by decide +kernel
theorem dX11_isIn_26 : decode cX11_isIn 26 = .ok (.iconst 1, 1) := by decide +kernel
theorem dX11_isIn_27 : decode cX11_isIn 27 = .ok (.goto 4, 3) := by decide +kernel
theorem dX11_isIn_30 : decode cX11_isIn 30 = .ok (.iconst 0, 1) := by decide +kernel
theorem dX11_isIn_31 : decode cX11_isIn 31 = .ok (.ireturn, 1) := by decide +kernel
theorem dX11_rename_0 : decode cX11_rename 0 = .ok (.aload_n 0, 1) := by decide +kernel
theorem dX11_rename_1 : decode cX11_rename 1 = .ok (.invokevirtual 333, 3) := by decide +kernel
theorem dX11_rename_4 : decode cX11_rename 4 = .ok (.ifCond .ne 6, 3) := by decide +kernel
theorem dX11_rename_7 : decode cX11_rename 7 = .ok (.bipush (-99), 2) := by decide +kernel
theorem dX11_rename_9 : decode cX11_rename 9 = .ok (.ireturn, 1) := by decide +kernel
theorem dX11_rename_10 : decode cX11_rename 10 = .ok (.aload_n 0, 1) := by decide +kernel
theorem dX11_rename_11 : decode cX11_rename 11 = .ok (.iload_n 1, 1) := by decide +kernel
theorem dX11_rename_12 : decode cX11_rename 12 = .ok (.invokevirtual 339, 3) := by decide +kernel
theorem dX11_rename_15 : decode cX11_rename 15 = .ok (.ifCond .eq 12, 3) := by decide +kernel
theorem dX11_rename_18 : decode cX11_rename 18 = .ok (.aload_n 0, 1) := by decide +kernel
theorem dX11_rename_19 : decode cX11_rename 19 = .ok (.iload 4, 2) := by decide +kernel
theorem dX11_rename_21 : decode cX11_rename 21 = .ok (.invokevirtual 339, 3) := by decide +kernel
theorem dX11_rename_24 : decode cX11_rename 24 = .ok (.ifCond .ne 6, 3) := by decide +kernel
theorem dX11_rename_27 : decode cX11_rename 27 = .ok (.bipush (-10), 2) := by decide +kernel
theorem dX11_rename_29 : decode cX11_rename 29 = .ok (.ireturn, 1) := by decide +kernel
theorem dX11_rename_30 : decode cX11_rename 30 = .ok (.lload_n 2, 1) := by decide +kernel
theorem dX11_rename_31 : decode cX11_rename 31 = .ok (.invokestatic 342, 3) := by decide +kernel
theorem dX11_rename_34 : decode cX11_rename 34 = .ok (.ifCond .eq 11, 3) := by decide +kernel
theorem dX11_rename_37 : decode cX11_rename 37 = .ok (.lload 5, 2) := by decide +kernel
theorem dX11_rename_39 : decode cX11_rename 39 = .ok (.invokestatic 342, 3) := by decide +kernel
theorem dX11_rename_42 : decode cX11_rename 42 = .ok (.ifCond .ne 6, 3) := by decide +kernel
theorem dX11_rename_45 : decode cX11_rename 45 = .ok (.bipush (-11), 2) := by decide +kernel
theorem dX11_rename_47 : decode cX11_rename 47 = .ok (.ireturn, 1) := by decide +kernel
theorem dX11_rename_48 : decode cX11_rename 48 = .ok (.aload_n 0, 1) := by decide +kernel
theorem dX11_rename_49 : decode cX11_rename 49 = .ok (.iload_n 1, 1) := by decide +kernel
theorem dX11_rename_50 : decode cX11_rename 50 = .ok (.iconst 3, 1) := by decide +kernel
theorem dX11_rename_51 : decode cX11_rename 51 = .ok (.invokevirtual 346, 3) := by decide +kernel
theorem dX11_rename_54 : decode cX11_rename 54 = .ok (.ifCond .eq 13, 3) := by decide +kernel
theorem dX11_rename_57 : decode cX11_rename 57 = .ok (.aload_n 0, 1) := by decide +kernel
theorem dX11_rename_58 : decode cX11_rename 58 = .ok (.iload 4, 2) := by decide +kernel
theorem dX11_rename_60 : decode cX11_rename 60 = .ok (.iconst 3, 1) := by decide +kernel
theorem dX11_rename_61 : decode cX11_rename 61 = .ok (.invokevirtual 346, 3) := by decide +kernel
theorem dX11_rename_64 : decode cX11_rename 64 = .ok (.ifCond .ne 6, 3) := by decide +kernel
theorem dX11_rename_67 : decode cX11_rename 67 = .ok (.bipush (-20), 2) := by decide +kernel
theorem dX11_rename_69 : decode cX11_rename 69 = .ok (.ireturn, 1) := by decide +kernel
theorem dX11_rename_70 : decode cX11_rename 70 = .ok (.aload_n 0, 1) := by decide +kernel
theorem dX11_rename_71 : decode cX11_rename 71 = .ok (.iload_n 1, 1) := by decide +kernel
theorem dX11_rename_72 : decode cX11_rename 72 = .ok (.lload_n 2, 1) := by decide +kernel
theorem dX11_rename_73 : decode cX11_rename 73 = .ok (.invokevirtual 349, 3) := by decide +kernel
theorem dX11_rename_76 : decode cX11_rename 76 = .ok (.istore 7, 2) := by decide +kernel
theorem dX11_rename_78 : decode cX11_rename 78 = .ok (.iload 7, 2) := by decide +kernel
theorem dX11_rename_80 : decode cX11_rename 80 = .ok (.iconst (-1), 1) := by decide +kernel
theorem dX11_rename_81 : decode cX11_rename 81 = .ok (.if_icmp .ne 6, 3) := by decide +kernel
theorem dX11_rename_84 : decode cX11_rename 84 = .ok (.bipush (-12), 2) := by decide +kernel
theorem dX11_rename_86 : decode cX11_rename 86 = .ok (.ireturn, 1) := by decide +kernel
theorem dX11_rename_87 : decode cX11_rename 87 = .ok (.aload_n 0, 1) := by decide +kernel
theorem dX11_rename_88 : decode cX11_rename 88 = .ok (.getfield 68, 3) := by decide +kernel
theorem dX11_rename_91 : decode cX11_rename 91 = .ok (.iload 7, 2) := by decide +kernel
theorem dX11_rename_93 : decode cX11_rename 93 = .ok (.iaload, 1) := by decide +kernel
theorem dX11_rename_94 : decode cX11_rename 94 = .ok (.istore 8, 2) := by decide +kernel
theorem dX11_rename_96 : decode cX11_rename 96 = .ok (.iload_n 1, 1) := by decide +kernel
theorem dX11_rename_97 : decode cX11_rename 97 = .ok (.iload 4, 2) := by decide +kernel
theorem dX11_rename_99 : decode cX11_rename 99 = .ok (.if_icmp .ne 13, 3) := by decide +kernel
theorem dX11_rename_102 : decode cX11_rename 102 = .ok (.lload_n 2, 1) := by decide +kernel
theorem dX11_rename_103 : decode cX11_rename 103 = .ok (.lload 5, 2) := by decide +kernel
theorem dX11_rename_105 : decode cX11_rename 105 = .ok (.lcmp, 1) := by decide +kernel
theorem dX11_rename_106 : decode cX11_rename 106 = .ok (.ifCond .ne 6, 3) := by decide +kernel
theorem dX11_rename_109 : decode cX11_rename 109 = .ok (.iload 8, 2) := by decide +kernel
theorem dX11_rename_111 : decode cX11_rename 111 = .ok (.ireturn, 1) := by decide +kernel
theorem dX11_rename_112 : decode cX11_rename 112 = .ok (.aload_n 0, 1) := by decide +kernel
theorem dX11_rename_113 : decode cX11_rename 113 = .ok (.getfield 40, 3) := by decide +kernel
theorem dX11_rename_116 : decode cX11_rename 116 = .ok (.iload 8, 2) := by decide +kernel
theorem dX11_rename_118 : decode cX11_rename 118 = .ok (.iaload, 1) := by decide +kernel
theorem dX11_rename_119 : decode cX11_rename 119 = .ok (.iconst 2, 1) := by decide +kernel
theorem dX11_rename_120 : decode cX11_rename 120 = .ok (.if_icmp .ne 17, 3) := by decide +kernel
theorem dX11_rename_123 : decode cX11_rename 123 = .ok (.aload_n 0, 1) := by decide +kernel
theorem dX11_rename_124 : decode cX11_rename 124 = .ok (.iload 4, 2) := by decide +kernel
theorem dX11_rename_126 : decode cX11_rename 126 = .ok (.iload 8, 2) := by decide +kernel
theorem dX11_rename_128 : decode cX11_rename 128 = .ok (.invokevirtual 455, 3) := by decide +kernel
theorem dX11_rename_131 : decode cX11_rename 131 = .ok (.ifCond .eq 6, 3) := by decide +kernel
theorem dX11_rename_134 : decode cX11_rename 134 = .ok (.bipush (-18), 2) := by decide +kernel
theorem dX11_rename_136 : decode cX11_rename 136 = .ok (.ireturn, 1) := by decide +kernel
theorem dX11_rename_137 : decode cX11_rename 137 = .ok (.aload_n 0, 1) := by decide +kernel
theorem dX11_rename_138 : decode cX11_rename 138 = .ok (.iload 4, 2) := by decide +kernel
theorem dX11_rename_140 : decode cX11_rename 140 = .ok (.lload 5, 2) := by decide +kernel
theorem dX11_rename_142 : decode cX11_rename 142 = .ok (.invokevirtual 349, 3) := by decide +kernel
theorem dX11_rename_145 : decode cX11_rename 145 = .ok (.istore 9, 2) := by decide +kernel
theorem dX11_rename_147 : decode cX11_rename 147 = .ok (.iload 9, 2) := by decide +kernel
theorem dX11_rename_149 : decode cX11_rename 149 = .ok (.iconst (-1), 1) := by decide +kernel
theorem dX11_rename_150 : decode cX11_rename 150 = .ok (.if_icmp .eq 91, 3) := by decide +kernel
theorem dX11_rename_153 : decode cX11_rename 153 = .ok (.aload_n 0, 1) := by decide +kernel
theorem dX11_rename_154 : decode cX11_rename 154 = .ok (.getfield 68, 3) := by decide +kernel
theorem dX11_rename_157 : decode cX11_rename 157 = .ok (.iload 9, 2) := by decide +kernel
theorem dX11_rename_159 : decode cX11_rename 159 = .ok (.iaload, 1) := by decide +kernel
theorem dX11_rename_160 : decode cX11_rename 160 = .ok (.istore 10, 2) := by decide +kernel
theorem dX11_rename_162 : decode cX11_rename 162 = .ok (.iload 10, 2) := by decide +kernel
theorem dX11_rename_164 : decode cX11_rename 164 = .ok (.iload 8, 2) := by decide +kernel
theorem dX11_rename_166 : decode cX11_rename 166 = .ok (.if_icmp .eq 38, 3) := by decide +kernel
theorem dX11_rename_169 : decode cX11_rename 169 = .ok (.aload_n 0, 1) := by decide +kernel
theorem dX11_rename_170 : decode cX11_rename 170 = .ok (.getfield 40, 3) := by decide +kernel
theorem dX11_rename_173 : decode cX11_rename 173 = .ok (.iload 10, 2) := by decide +kernel
theorem dX11_rename_175 : decode cX11_rename 175 = .ok (.iaload, 1) := by decide +kernel
theorem dX11_rename_176 : decode cX11_rename 176 = .ok (.iconst 2, 1) := by decide +kernel
theorem dX11_rename_177 : decode cX11_rename 177 = .ok (.if_icmp .ne 7, 3) := by decide +kernel
theorem dX11_rename_180 : decode cX11_rename 180 = .ok (.iconst 1, 1) := by decide +kernel
theorem dX11_rename_181 : decode cX11_rename 181 = .ok (.goto 4, 3) := by decide +kernel
theorem dX11_rename_184 : decode cX11_rename 184 = .ok (.iconst 0, 1) := by decide +kernel
theorem dX11_rename_185 : decode cX11_rename 185 = .ok (.aload_n 0, 1) := by decide +kernel
theorem dX11_rename_186 : decode cX11_rename 186 = .ok (.getfield 40, 3) := by decide +kernel
theorem dX11_rename_189 : decode cX11_rename 189 = .ok (.iload 8, 2) := by decide +kernel
theorem dX11_rename_191 : decode cX11_rename 191 = .ok (.iaload, 1) := by decide +kernel
theorem dX11_rename_192 : decode cX11_rename 192 = .ok (.iconst 2, 1) := by decide +kernel
theorem dX11_rename_193 : decode cX11_rename 193 = .ok (.if_icmp .ne 7, 3) := by decide +kernel
theorem dX11_rename_196 : decode cX11_rename 196 = .ok (.iconst 1, 1) := by decide +kernel
theorem dX11_rename_197 : decode cX11_rename 197 = .ok (.goto 4, 3) := by decide +kernel
theorem dX11_rename_200 : decode cX11_rename 200 = .ok (.iconst 0, 1) := by decide +kernel
theorem dX11_rename_201 : decode cX11_rename 201 = .ok (.if_icmp .eq 6, 3) := by decide +kernel
theorem dX11_rename_204 : decode cX11_rename 204 = .ok (.bipush (-13), 2) := by decide +kernel
theorem dX11_rename_206 : decode cX11_rename 206 = .ok (.ireturn, 1) := by decide +kernel
theorem dX11_rename_207 : decode cX11_rename 207 = .ok (.aload_n 0, 1) := by decide +kernel
theorem dX11_rename_208 : decode cX11_rename 208 = .ok (.getfield 40, 3) := by decide +kernel
theorem dX11_rename_211 : decode cX11_rename 211 = .ok (.iload 10, 2) := by decide +kernel
theorem dX11_rename_213 : decode cX11_rename 213 = .ok (.iaload, 1) := by decide +kernel
theorem dX11_rename_214 : decode cX11_rename 214 = .ok (.iconst 2, 1) := by decide +kernel
theorem dX11_rename_215 : decode cX11_rename 215 = .ok (.if_icmp .ne 15, 3) := by decide +kernel
theorem dX11_rename_218 : decode cX11_rename 218 = .ok (.aload_n 0, 1) := by decide +kernel
theorem dX11_rename_219 : decode cX11_rename 219 = .ok (.iload 10, 2) := by decide +kernel
theorem dX11_rename_221 : decode cX11_rename 221 = .ok (.invokevirtual 443, 3) := by decide +kernel
theorem dX11_rename_224 : decode cX11_rename 224 = .ok (.ifCond .le 6, 3) := by decide +kernel
theorem dX11_rename_227 : decode cX11_rename 227 = .ok (.bipush (-17), 2) := by decide +kernel
theorem dX11_rename_229 : decode cX11_rename 229 = .ok (.ireturn, 1) := by decide +kernel
theorem dX11_rename_230 : decode cX11_rename 230 = .ok (.aload_n 0, 1) := by decide +kernel
theorem dX11_rename_231 : decode cX11_rename 231 = .ok (.iload 9, 2) := by decide +kernel
theorem dX11_rename_233 : decode cX11_rename 233 = .ok (.invokevirtual 446, 3) := by decide +kernel
theorem dX11_rename_236 : decode cX11_rename 236 = .ok (.istore 11, 2) := by decide +kernel
theorem dX11_rename_238 : decode cX11_rename 238 = .ok (.goto 22, 3) := by decide +kernel
theorem dX11_rename_241 : decode cX11_rename 241 = .ok (.iload_n 1, 1) := by decide +kernel
theorem dX11_rename_242 : decode cX11_rename 242 = .ok (.iload 4, 2) := by decide +kernel
theorem dX11_rename_244 : decode cX11_rename 244 = .ok (.if_icmp .eq 16, 3) := by decide +kernel
theorem dX11_rename_247 : decode cX11_rename 247 = .ok (.aload_n 0, 1) := by decide +kernel
theorem dX11_rename_248 : decode cX11_rename 248 = .ok (.iload 4, 2) := by decide +kernel
theorem dX11_rename_250 : decode cX11_rename 250 = .ok (.iconst (-1), 1) := by decide +kernel
theorem dX11_rename_251 : decode cX11_rename 251 = .ok (.invokevirtual 359, 3) := by decide +kernel
theorem dX11_rename_254 : decode cX11_rename 254 = .ok (.ifCond .ne 6, 3) := by decide +kernel
theorem dX11_rename_257 : decode cX11_rename 257 = .ok (.bipush (-16), 2) := by decide +kernel
theorem dX11_rename_259 : decode cX11_rename 259 = .ok (.ireturn, 1) := by decide +kernel
theorem dX11_rename_260 : decode cX11_rename 260 = .ok (.aload_n 0, 1) := by decide +kernel
theorem dX11_rename_261 : decode cX11_rename 261 = .ok (.getfield 68, 3) := by decide +kernel
theorem dX11_rename_264 : decode cX11_rename 264 = .ok (.iload 7, 2) := by decide +kernel
theorem dX11_rename_266 : decode cX11_rename 266 = .ok (.iconst (-1), 1) := by decide +kernel
theorem dX11_rename_267 : decode cX11_rename 267 = .ok (.iastore, 1) := by decide +kernel
theorem dX11_rename_268 : decode cX11_rename 268 = .ok (.aload_n 0, 1) := by decide +kernel
theorem dX11_rename_269 : decode cX11_rename 269 = .ok (.iload 7, 2) := by decide +kernel
theorem dX11_rename_271 : decode cX11_rename 271 = .ok (.invokevirtual 327, 3) := by decide +kernel
theorem dX11_rename_274 : decode cX11_rename 274 = .ok (.aload_n 0, 1) := by decide +kernel
theorem dX11_rename_275 : decode cX11_rename 275 = .ok (.iload 4, 2) := by decide +kernel
theorem dX11_rename_277 : decode cX11_rename 277 = .ok (.lload 5, 2) := by decide +kernel
theorem dX11_rename_279 : decode cX11_rename 279 = .ok (.iload 8, 2) := by decide +kernel
theorem dX11_rename_281 : decode cX11_rename 281 = .ok (.iconst (-1), 1) := by decide +kernel
theorem dX11_rename_282 : decode cX11_rename 282 = .ok (.invokevirtual 362, 3) := by decide +kernel
theorem dX11_rename_285 : decode cX11_rename 285 = .ok (.aload_n 0, 1) := by decide +kernel
theorem dX11_rename_286 : decode cX11_rename 286 = .ok (.getfield 40, 3) := by decide +kernel
theorem dX11_rename_289 : decode cX11_rename 289 = .ok (.iload 8, 2) := by decide +kernel
theorem dX11_rename_291 : decode cX11_rename 291 = .ok (.iaload, 1) := by decide +kernel
theorem dX11_rename_292 : decode cX11_rename 292 = .ok (.iconst 2, 1) := by decide +kernel
theorem dX11_rename_293 : decode cX11_rename 293 = .ok (.if_icmp .ne 24, 3) := by decide +kernel
theorem dX11_rename_296 : decode cX11_rename 296 = .ok (.iload_n 1, 1) := by decide +kernel
theorem dX11_rename_297 : decode cX11_rename 297 = .ok (.iload 4, 2) := by decide +kernel
theorem dX11_rename_299 : decode cX11_rename 299 = .ok (.if_icmp .eq 18, 3) := by decide +kernel
theorem dX11_rename_302 : decode cX11_rename 302 = .ok (.aload_n 0, 1) := by decide +kernel
theorem dX11_rename_303 : decode cX11_rename 303 = .ok (.getfield 46, 3) := by decide +kernel
theorem dX11_rename_306 : decode cX11_rename 306 = .ok (.iload 8, 2) := by decide +kernel
theorem dX11_rename_308 : decode cX11_rename 308 = .ok (.iload 4, 2) := by decide +kernel
theorem dX11_rename_310 : decode cX11_rename 310 = .ok (.iastore, 1) := by decide +kernel
theorem dX11_rename_311 : decode cX11_rename 311 = .ok (.aload_n 0, 1) := by decide +kernel
theorem dX11_rename_312 : decode cX11_rename 312 = .ok (.iload 8, 2) := by decide +kernel
theorem dX11_rename_314 : decode cX11_rename 314 = .ok (.invokevirtual 324, 3) := by decide +kernel
theorem dX11_rename_317 : decode cX11_rename 317 = .ok (.iload 8, 2) := by decide +kernel
theorem dX11_rename_319 : decode cX11_rename 319 = .ok (.ireturn, 1) := by decide +kernel
theorem dX11_find_0 : decode cX11_find 0 = .ok (.aload_n 0, 1) := by decide +kernel
theorem dX11_find_1 : decode cX11_find 1 = .ok (.getfield 7, 3) := by decide +kernel
theorem dX11_find_4 : decode cX11_find 4 = .ok (.ifCond .ne 6, 3) := by decide +kernel
theorem dX11_find_7 : decode cX11_find 7 = .ok (.bipush (-99), 2) := by decide +kernel
theorem dX11_find_9 : decode cX11_find 9 = .ok (.ireturn, 1) := by decide +kernel
theorem dX11_find_10 : decode cX11_find 10 = .ok (.aload_n 0, 1) := by decide +kernel
theorem dX11_find_11 : decode cX11_find 11 = .ok (.iload_n 1, 1) := by decide +kernel
theorem dX11_find_12 : decode cX11_find 12 = .ok (.invokevirtual 339, 3) := by decide +kernel
theorem dX11_find_15 : decode cX11_find 15 = .ok (.ifCond .ne 6, 3) := by decide +kernel
theorem dX11_find_18 : decode cX11_find 18 = .ok (.bipush (-10), 2) := by decide +kernel
theorem dX11_find_20 : decode cX11_find 20 = .ok (.ireturn, 1) := by decide +kernel
theorem dX11_find_21 : decode cX11_find 21 = .ok (.lload_n 2, 1) := by decide +kernel
theorem dX11_find_22 : decode cX11_find 22 = .ok (.invokestatic 342, 3) := by decide +kernel
theorem dX11_find_25 : decode cX11_find 25 = .ok (.ifCond .ne 6, 3) := by decide +kernel
theorem dX11_find_28 : decode cX11_find 28 = .ok (.bipush (-11), 2) := by decide +kernel
theorem dX11_find_30 : decode cX11_find 30 = .ok (.ireturn, 1) := by decide +kernel
theorem dX11_find_31 : decode cX11_find 31 = .ok (.aload_n 0, 1) := by decide +kernel
theorem dX11_find_32 : decode cX11_find 32 = .ok (.iload_n 1, 1) := by decide +kernel
theorem dX11_find_33 : decode cX11_find 33 = .ok (.iconst 1, 1) := by decide +kernel
theorem dX11_find_34 : decode cX11_find 34 = .ok (.invokevirtual 346, 3) := by decide +kernel
theorem dX11_find_37 : decode cX11_find 37 = .ok (.ifCond .ne 6, 3) := by decide +kernel
theorem dX11_find_40 : decode cX11_find 40 = .ok (.bipush (-20), 2) := by decide +kernel
theorem dX11_find_42 : decode cX11_find 42 = .ok (.ireturn, 1) := by decide +kernel
theorem dX11_find_43 : decode cX11_find 43 = .ok (.aload_n 0, 1) := by decide +kernel
theorem dX11_find_44 : decode cX11_find 44 = .ok (.iload_n 1, 1) := by decide +kernel
theorem dX11_find_45 : decode cX11_find 45 = .ok (.lload_n 2, 1) := by decide +kernel
theorem dX11_find_46 : decode cX11_find 46 = .ok (.invokevirtual 349, 3) := by decide +kernel
theorem dX11_find_49 : decode cX11_find 49 = .ok (.istore 4, 2) := by decide +kernel
theorem dX11_find_51 : decode cX11_find 51 = .ok (.iload 4, 2) := by decide +kernel
theorem dX11_find_53 : decode cX11_find 53 = .ok (.iconst (-1), 1) := by decide +kernel
theorem dX11_find_54 : decode cX11_find 54 = .ok (.if_icmp .ne 8, 3) := by decide +kernel
theorem dX11_find_57 : decode cX11_find 57 = .ok (.bipush (-12), 2) := by decide +kernel
theorem dX11_find_59 : decode cX11_find 59 = .ok (.goto 10, 3) := by decide +kernel
theorem dX11_find_62 : decode cX11_find 62 = .ok (.aload_n 0, 1) := by decide +kernel
theorem dX11_find_63 : decode cX11_find 63 = .ok (.getfield 68, 3) := by decide +kernel
theorem dX11_find_66 : decode cX11_find 66 = .ok (.iload 4, 2) := by decide +kernel
theorem dX11_find_68 : decode cX11_find 68 = .ok (.iaload, 1) := by decide +kernel
theorem dX11_find_69 : decode cX11_find 69 = .ok (.ireturn, 1) := by decide +kernel
theorem dX11_isAhead_0 : decode cX11_isAhead 0 = .ok (.iconst 0, 1) := by decide +kernel
theorem dX11_isAhead_1 : decode cX11_isAhead 1 = .ok (.istore 4, 2) := by decide +kernel
theorem dX11_isAhead_3 : decode cX11_isAhead 3 = .ok (.iload 4, 2) := by decide +kernel
theorem dX11_isAhead_5 : decode cX11_isAhead 5 = .ok (.bipush 8, 2) := by decide +kernel
theorem dX11_isAhead_7 : decode cX11_isAhead 7 = .ok (.if_icmp .ge 24, 3) := by decide +kernel
theorem dX11_isAhead_10 : decode cX11_isAhead 10 = .ok (.lload_n 0, 1) := by decide +kernel
theorem dX11_isAhead_11 : decode cX11_isAhead 11 = .ok (.iload 4, 2) := by decide +kernel
theorem dX11_isAhead_13 : decode cX11_isAhead 13 = .ok (.invokestatic 308, 3) := by decide +kernel
theorem dX11_isAhead_16 : decode cX11_isAhead 16 = .ok (.lload_n 2, 1) := by decide +kernel
theorem dX11_isAhead_17 : decode cX11_isAhead 17 = .ok (.iload 4, 2) := by decide +kernel
theorem dX11_isAhead_19 : decode cX11_isAhead 19 = .ok (.invokestatic 308, 3) := by decide +kernel
theorem dX11_isAhead_22 : decode cX11_isAhead 22 = .ok (.if_icmp .ne 9, 3) := by decide +kernel
theorem dX11_isAhead_25 : decode cX11_isAhead 25 = .ok (.iinc 4 1, 3) := by decide +kernel
theorem dX11_isAhead_28 : decode cX11_isAhead 28 = .ok (.goto (-25), 3) := by decide +kernel
theorem dX11_isAhead_31 : decode cX11_isAhead 31 = .ok (.lload_n 0, 1) := by decide +kernel
theorem dX11_isAhead_32 : decode cX11_isAhead 32 = .ok (.iload 4, 2) := by decide +kernel
theorem dX11_isAhead_34 : decode cX11_isAhead 34 = .ok (.invokestatic 308, 3) := by decide +kernel
theorem dX11_isAhead_37 : decode cX11_isAhead 37 = .ok (.lload_n 2, 1) := by decide +kernel
theorem dX11_isAhead_38 : decode cX11_isAhead 38 = .ok (.iload 4, 2) := by decide +kernel
theorem dX11_isAhead_40 : decode cX11_isAhead 40 = .ok (.invokestatic 308, 3) := by decide +kernel
theorem dX11_isAhead_43 : decode cX11_isAhead 43 = .ok (.if_icmp .ge 7, 3) := by decide +kernel
theorem dX11_isAhead_46 : decode cX11_isAhead 46 = .ok (.iconst 1, 1) := by decide +kernel
theorem dX11_isAhead_47 : decode cX11_isAhead 47 = .ok (.goto 4, 3) := by decide +kernel
theorem dX11_isAhead_50 : decode cX11_isAhead 50 = .ok (.iconst 0, 1) := by decide +kernel
theorem dX11_isAhead_51 : decode cX11_isAhead 51 = .ok (.ireturn, 1) := by decide +kernel
theorem dX11_ordered_0 : decode cX11_ordered 0 = .ok (.bipush 48, 2) := by decide +kernel
theorem dX11_ordered_2 : decode cX11_ordered 2 = .ok (.iload_n 1, 1) := by decide +kernel
theorem dX11_ordered_3 : decode cX11_ordered 3 = .ok (.imul, 1) := by decide +kernel
theorem dX11_ordered_4 : decode cX11_ordered 4 = .ok (.istore_n 3, 1) := by decide +kernel
theorem dX11_ordered_5 : decode cX11_ordered 5 = .ok (.iload_n 3, 1) := by decide +kernel
theorem dX11_ordered_6 : decode cX11_ordered 6 = .ok (.bipush 48, 2) := by decide +kernel
theorem dX11_ordered_8 : decode cX11_ordered 8 = .ok (.iload_n 1, 1) := by decide +kernel
theorem dX11_ordered_9 : decode cX11_ordered 9 = .ok (.imul, 1) := by decide +kernel
theorem dX11_ordered_10 : decode cX11_ordered 10 = .ok (.aload_n 0, 1) := by decide +kernel
theorem dX11_ordered_11 : decode cX11_ordered 11 = .ok (.iload_n 1, 1) := by decide +kernel
theorem dX11_ordered_12 : decode cX11_ordered 12 = .ok (.invokevirtual 315, 3) := by decide +kernel
theorem dX11_ordered_15 : decode cX11_ordered 15 = .ok (.iadd, 1) := by decide +kernel
theorem dX11_ordered_16 : decode cX11_ordered 16 = .ok (.if_icmp .ge 100, 3) := by decide +kernel
theorem dX11_ordered_19 : decode cX11_ordered 19 = .ok (.aload_n 0, 1) := by decide +kernel
theorem dX11_ordered_20 : decode cX11_ordered 20 = .ok (.getfield 68, 3) := by decide +kernel
theorem dX11_ordered_23 : decode cX11_ordered 23 = .ok (.iload_n 3, 1) := by decide +kernel
theorem dX11_ordered_24 : decode cX11_ordered 24 = .ok (.iaload, 1) := by decide +kernel
theorem dX11_ordered_25 : decode cX11_ordered 25 = .ok (.iconst (-1), 1) := by decide +kernel
theorem dX11_ordered_26 : decode cX11_ordered 26 = .ok (.if_icmp .ne 6, 3) := by decide +kernel
theorem dX11_ordered_29 : decode cX11_ordered 29 = .ok (.goto 81, 3) := by decide +kernel
theorem dX11_ordered_32 : decode cX11_ordered 32 = .ok (.iconst 0, 1) := by decide +kernel
theorem dX11_ordered_33 : decode cX11_ordered 33 = .ok (.istore 4, 2) := by decide +kernel
theorem dX11_ordered_35 : decode cX11_ordered 35 = .ok (.bipush 48, 2) := by decide +kernel
theorem dX11_ordered_37 : decode cX11_ordered 37 = .ok (.iload_n 1, 1) := by decide +kernel
theorem dX11_ordered_38 : decode cX11_ordered 38 = .ok (.imul, 1) := by decide +kernel
theorem dX11_ordered_39 : decode cX11_ordered 39 = .ok (.istore 5, 2) := by decide +kernel
theorem dX11_ordered_41 : decode cX11_ordered 41 = .ok (.iload 5, 2) := by decide +kernel
theorem dX11_ordered_43 : decode cX11_ordered 43 = .ok (.bipush 48, 2) := by decide +kernel
theorem dX11_ordered_45 : decode cX11_ordered 45 = .ok (.iload_n 1, 1) := by decide +kernel
theorem dX11_ordered_46 : decode cX11_ordered 46 = .ok (.imul, 1) := by decide +kernel
theorem dX11_ordered_47 : decode cX11_ordered 47 = .ok (.aload_n 0, 1) := by decide +kernel
theorem dX11_ordered_48 : decode cX11_ordered 48 = .ok (.iload_n 1, 1) := by decide +kernel
theorem dX11_ordered_49 : decode cX11_ordered 49 = .ok (.invokevirtual 315, 3) := by decide +kernel
theorem dX11_ordered_52 : decode cX11_ordered 52 = .ok (.iadd, 1) := by decide +kernel
theorem dX11_ordered_53 : decode cX11_ordered 53 = .ok (.if_icmp .ge 49, 3) := by decide +kernel
theorem dX11_ordered_56 : decode cX11_ordered 56 = .ok (.iload 4, 2) := by decide +kernel
theorem dX11_ordered_58 : decode cX11_ordered 58 = .ok (.aload_n 0, 1) := by decide +kernel
theorem dX11_ordered_59 : decode cX11_ordered 59 = .ok (.getfield 68, 3) := by decide +kernel
theorem dX11_ordered_62 : decode cX11_ordered 62 = .ok (.iload 5, 2) := by decide +kernel
theorem dX11_ordered_64 : decode cX11_ordered 64 = .ok (.iaload, 1) := by decide +kernel
theorem dX11_ordered_65 : decode cX11_ordered 65 = .ok (.iconst (-1), 1) := by decide +kernel
theorem dX11_ordered_66 : decode cX11_ordered 66 = .ok (.if_icmp .eq 26, 3) := by decide +kernel
theorem dX11_ordered_69 : decode cX11_ordered 69 = .ok (.aload_n 0, 1) := by decide +kernel
theorem dX11_ordered_70 : decode cX11_ordered 70 = .ok (.getfield 71, 3) := by decide +kernel
theorem dX11_ordered_73 : decode cX11_ordered 73 = .ok (.iload 5, 2) := by decide +kernel
theorem dX11_ordered_75 : decode cX11_ordered 75 = .ok (.laload, 1) := by decide +kernel
theorem dX11_ordered_76 : decode cX11_ordered 76 = .ok (.aload_n 0, 1) := by decide +kernel
theorem dX11_ordered_77 : decode cX11_ordered 77 = .ok (.getfield 71, 3) := by decide +kernel
theorem dX11_ordered_80 : decode cX11_ordered 80 = .ok (.iload_n 3, 1) := by decide +kernel
theorem dX11_ordered_81 : decode cX11_ordered 81 = .ok (.laload, 1) := by decide +kernel
theorem dX11_ordered_82 : decode cX11_ordered 82 = .ok (.invokestatic 458, 3) := by decide +kernel
theorem dX11_ordered_85 : decode cX11_ordered 85 = .ok (.ifCond .eq 7, 3) := by decide +kernel
theorem dX11_ordered_88 : decode cX11_ordered 88 = .ok (.iconst 1, 1) := by decide +kernel
theorem dX11_ordered_89 : decode cX11_ordered 89 = .ok (.goto 4, 3) := by decide +kernel
theorem dX11_ordered_92 : decode cX11_ordered 92 = .ok (.iconst 0, 1) := by decide +kernel
theorem dX11_ordered_93 : decode cX11_ordered 93 = .ok (.iadd, 1) := by decide +kernel
theorem dX11_ordered_94 : decode cX11_ordered 94 = .ok (.istore 4, 2) := by decide +kernel
theorem dX11_ordered_96 : decode cX11_ordered 96 = .ok (.iinc 5 1, 3) := by decide +kernel
theorem dX11_ordered_99 : decode cX11_ordered 99 = .ok (.goto (-58), 3) := by decide +kernel
theorem dX11_ordered_102 : decode cX11_ordered 102 = .ok (.iload 4, 2) := by decide +kernel
theorem dX11_ordered_104 : decode cX11_ordered 104 = .ok (.iload_n 2, 1) := by decide +kernel
theorem dX11_ordered_105 : decode cX11_ordered 105 = .ok (.if_icmp .ne 5, 3) := by decide +kernel
theorem dX11_ordered_108 : decode cX11_ordered 108 = .ok (.iload_n 3, 1) := by decide +kernel
theorem dX11_ordered_109 : decode cX11_ordered 109 = .ok (.ireturn, 1) := by decide +kernel
theorem dX11_ordered_110 : decode cX11_ordered 110 = .ok (.iinc 3 1, 3) := by decide +kernel
theorem dX11_ordered_113 : decode cX11_ordered 113 = .ok (.goto (-108), 3) := by decide +kernel
theorem dX11_ordered_116 : decode cX11_ordered 116 = .ok (.iconst (-1), 1) := by decide +kernel
theorem dX11_ordered_117 : decode cX11_ordered 117 = .ok (.ireturn, 1) := by decide +kernel
theorem dX11_entry_0 : decode cX11_entry 0 = .ok (.aload_n 0, 1) := by decide +kernel
theorem dX11_entry_1 : decode cX11_entry 1 = .ok (.getfield 7, 3) := by decide +kernel
theorem dX11_entry_4 : decode cX11_entry 4 = .ok (.ifCond .ne 6, 3) := by decide +kernel
theorem dX11_entry_7 : decode cX11_entry 7 = .ok (.bipush (-99), 2) := by decide +kernel
theorem dX11_entry_9 : decode cX11_entry 9 = .ok (.ireturn, 1) := by decide +kernel
theorem dX11_entry_10 : decode cX11_entry 10 = .ok (.aload_n 0, 1) := by decide +kernel
theorem dX11_entry_11 : decode cX11_entry 11 = .ok (.iload_n 1, 1) := by decide +kernel
theorem dX11_entry_12 : decode cX11_entry 12 = .ok (.invokevirtual 339, 3) := by decide +kernel
theorem dX11_entry_15 : decode cX11_entry 15 = .ok (.ifCond .ne 6, 3) := by decide +kernel
theorem dX11_entry_18 : decode cX11_entry 18 = .ok (.bipush (-10), 2) := by decide +kernel
theorem dX11_entry_20 : decode cX11_entry 20 = .ok (.ireturn, 1) := by decide +kernel
theorem dX11_entry_21 : decode cX11_entry 21 = .ok (.aload_n 0, 1) := by decide +kernel
theorem dX11_entry_22 : decode cX11_entry 22 = .ok (.iload_n 1, 1) := by decide +kernel
theorem dX11_entry_23 : decode cX11_entry 23 = .ok (.iconst 4, 1) := by decide +kernel
theorem dX11_entry_24 : decode cX11_entry 24 = .ok (.invokevirtual 346, 3) := by decide +kernel
theorem dX11_entry_27 : decode cX11_entry 27 = .ok (.ifCond .ne 6, 3) := by decide +kernel
theorem dX11_entry_30 : decode cX11_entry 30 = .ok (.bipush (-20), 2) := by decide +kernel
theorem dX11_entry_32 : decode cX11_entry 32 = .ok (.ireturn, 1) := by decide +kernel
theorem dX11_entry_33 : decode cX11_entry 33 = .ok (.aload_n 0, 1) := by decide +kernel
theorem dX11_entry_34 : decode cX11_entry 34 = .ok (.iload_n 1, 1) := by decide +kernel
theorem dX11_entry_35 : decode cX11_entry 35 = .ok (.iload_n 2, 1) := by decide +kernel
theorem dX11_entry_36 : decode cX11_entry 36 = .ok (.invokevirtual 462, 3) := by decide +kernel
theorem dX11_entry_39 : decode cX11_entry 39 = .ok (.istore_n 3, 1) := by decide +kernel
theorem dX11_entry_40 : decode cX11_entry 40 = .ok (.iload_n 3, 1) := by decide +kernel
theorem dX11_entry_41 : decode cX11_entry 41 = .ok (.iconst (-1), 1) := by decide +kernel
theorem dX11_entry_42 : decode cX11_entry 42 = .ok (.if_icmp .ne 7, 3) := by decide +kernel
theorem dX11_entry_45 : decode cX11_entry 45 = .ok (.iconst (-1), 1) := by decide +kernel
theorem dX11_entry_46 : decode cX11_entry 46 = .ok (.goto 9, 3) := by decide +kernel
theorem dX11_entry_49 : decode cX11_entry 49 = .ok (.aload_n 0, 1) := by decide +kernel
theorem dX11_entry_50 : decode cX11_entry 50 = .ok (.getfield 68, 3) := by decide +kernel
theorem dX11_entry_53 : decode cX11_entry 53 = .ok (.iload_n 3, 1) := by decide +kernel
theorem dX11_entry_54 : decode cX11_entry 54 = .ok (.iaload, 1) := by decide +kernel
theorem dX11_entry_55 : decode cX11_entry 55 = .ok (.ireturn, 1) := by decide +kernel
theorem dX11_name_0 : decode cX11_name 0 = .ok (.aload_n 0, 1) := by decide +kernel
theorem dX11_name_1 : decode cX11_name 1 = .ok (.getfield 7, 3) := by decide +kernel
theorem dX11_name_4 : decode cX11_name 4 = .ok (.ifCond .ne 7, 3) := by decide +kernel
theorem dX11_name_7 : decode cX11_name 7 = .ok (.ldc2_w 465, 3) := by decide +kernel
theorem dX11_name_10 : decode cX11_name 10 = .ok (.lreturn, 1) := by decide +kernel
theorem dX11_name_11 : decode cX11_name 11 = .ok (.aload_n 0, 1) := by decide +kernel
theorem dX11_name_12 : decode cX11_name 12 = .ok (.iload_n 1, 1) := by decide +kernel
theorem dX11_name_13 : decode cX11_name 13 = .ok (.invokevirtual 339, 3) := by decide +kernel
theorem dX11_name_16 : decode cX11_name 16 = .ok (.ifCond .ne 7, 3) := by decide +kernel
theorem dX11_name_19 : decode cX11_name 19 = .ok (.ldc2_w 467, 3) := by decide +kernel
theorem dX11_name_22 : decode cX11_name 22 = .ok (.lreturn, 1) := by decide +kernel
theorem dX11_name_23 : decode cX11_name 23 = .ok (.aload_n 0, 1) := by decide +kernel
theorem dX11_name_24 : decode cX11_name 24 = .ok (.iload_n 1, 1) := by decide +kernel
theorem dX11_name_25 : decode cX11_name 25 = .ok (.iconst 4, 1) := by decide +kernel
theorem dX11_name_26 : decode cX11_name 26 = .ok (.invokevirtual 346, 3) := by decide +kernel
theorem dX11_name_29 : decode cX11_name 29 = .ok (.ifCond .ne 7, 3) := by decide +kernel
theorem dX11_name_32 : decode cX11_name 32 = .ok (.ldc2_w 469, 3) := by decide +kernel
theorem dX11_name_35 : decode cX11_name 35 = .ok (.lreturn, 1) := by decide +kernel
theorem dX11_name_36 : decode cX11_name 36 = .ok (.aload_n 0, 1) := by decide +kernel
theorem dX11_name_37 : decode cX11_name 37 = .ok (.iload_n 1, 1) := by decide +kernel
theorem dX11_name_38 : decode cX11_name 38 = .ok (.iload_n 2, 1) := by decide +kernel
theorem dX11_name_39 : decode cX11_name 39 = .ok (.invokevirtual 462, 3) := by decide +kernel
theorem dX11_name_42 : decode cX11_name 42 = .ok (.istore_n 3, 1) := by decide +kernel
theorem dX11_name_43 : decode cX11_name 43 = .ok (.iload_n 3, 1) := by decide +kernel
theorem dX11_name_44 : decode cX11_name 44 = .ok (.iconst (-1), 1) := by decide +kernel
theorem dX11_name_45 : decode cX11_name 45 = .ok (.if_icmp .ne 9, 3) := by decide +kernel
theorem dX11_name_48 : decode cX11_name 48 = .ok (.ldc2_w 471, 3) := by decide +kernel
theorem dX11_name_51 : decode cX11_name 51 = .ok (.goto 9, 3) := by decide +kernel
theorem dX11_name_54 : decode cX11_name 54 = .ok (.aload_n 0, 1) := by decide +kernel
theorem dX11_name_55 : decode cX11_name 55 = .ok (.getfield 71, 3) := by decide +kernel
theorem dX11_name_58 : decode cX11_name 58 = .ok (.iload_n 3, 1) := by decide +kernel
theorem dX11_name_59 : decode cX11_name 59 = .ok (.laload, 1) := by decide +kernel
theorem dX11_name_60 : decode cX11_name 60 = .ok (.lreturn, 1) := by decide +kernel
theorem dX11_kind_0 : decode cX11_kind 0 = .ok (.aload_n 0, 1) := by decide +kernel
theorem dX11_kind_1 : decode cX11_kind 1 = .ok (.getfield 7, 3) := by decide +kernel
theorem dX11_kind_4 : decode cX11_kind 4 = .ok (.ifCond .ne 6, 3) := by decide +kernel
theorem dX11_kind_7 : decode cX11_kind 7 = .ok (.bipush (-99), 2) := by decide +kernel
theorem dX11_kind_9 : decode cX11_kind 9 = .ok (.ireturn, 1) := by decide +kernel
theorem dX11_kind_10 : decode cX11_kind 10 = .ok (.iload_n 1, 1) := by decide +kernel
theorem dX11_kind_11 : decode cX11_kind 11 = .ok (.ifCond .lt 9, 3) := by decide +kernel
theorem dX11_kind_14 : decode cX11_kind 14 = .ok (.iload_n 1, 1) := by decide +kernel
theorem dX11_kind_15 : decode cX11_kind 15 = .ok (.bipush 64, 2) := by decide +kernel
theorem dX11_kind_17 : decode cX11_kind 17 = .ok (.if_icmp .lt 8, 3) := by decide +kernel
theorem dX11_kind_20 : decode cX11_kind 20 = .ok (.bipush (-10), 2) := by decide +kernel
theorem dX11_kind_22 : decode cX11_kind 22 = .ok (.goto 9, 3) := by decide +kernel
theorem dX11_kind_25 : decode cX11_kind 25 = .ok (.aload_n 0, 1) := by decide +kernel
theorem dX11_kind_26 : decode cX11_kind 26 = .ok (.getfield 40, 3) := by decide +kernel
theorem dX11_kind_29 : decode cX11_kind 29 = .ok (.iload_n 1, 1) := by decide +kernel
theorem dX11_kind_30 : decode cX11_kind 30 = .ok (.iaload, 1) := by decide +kernel
theorem dX11_kind_31 : decode cX11_kind 31 = .ok (.ireturn, 1) := by decide +kernel
theorem dX11_size_0 : decode cX11_size 0 = .ok (.aload_n 0, 1) := by decide +kernel
theorem dX11_size_1 : decode cX11_size 1 = .ok (.getfield 7, 3) := by decide +kernel
theorem dX11_size_4 : decode cX11_size 4 = .ok (.ifCond .ne 6, 3) := by decide +kernel
theorem dX11_size_7 : decode cX11_size 7 = .ok (.bipush (-99), 2) := by decide +kernel
theorem dX11_size_9 : decode cX11_size 9 = .ok (.ireturn, 1) := by decide +kernel
theorem dX11_size_10 : decode cX11_size 10 = .ok (.iload_n 1, 1) := by decide +kernel
theorem dX11_size_11 : decode cX11_size 11 = .ok (.ifCond .lt 18, 3) := by decide +kernel
theorem dX11_size_14 : decode cX11_size 14 = .ok (.iload_n 1, 1) := by decide +kernel
theorem dX11_size_15 : decode cX11_size 15 = .ok (.bipush 64, 2) := by decide +kernel
theorem dX11_size_17 : decode cX11_size 17 = .ok (.if_icmp .ge 12, 3) := by decide +kernel
theorem dX11_size_20 : decode cX11_size 20 = .ok (.aload_n 0, 1) := by decide +kernel
theorem dX11_size_21 : decode cX11_size 21 = .ok (.getfield 40, 3) := by decide +kernel
theorem dX11_size_24 : decode cX11_size 24 = .ok (.iload_n 1, 1) := by decide +kernel
theorem dX11_size_25 : decode cX11_size 25 = .ok (.iaload, 1) := by decide +kernel
theorem dX11_size_26 : decode cX11_size 26 = .ok (.ifCond .ne 6, 3) := by decide +kernel
theorem dX11_size_29 : decode cX11_size 29 = .ok (.bipush (-10), 2) := by decide +kernel
theorem dX11_size_31 : decode cX11_size 31 = .ok (.ireturn, 1) := by decide +kernel
theorem dX11_size_32 : decode cX11_size 32 = .ok (.aload_n 0, 1) := by decide +kernel
theorem dX11_size_33 : decode cX11_size 33 = .ok (.getfield 40, 3) := by decide +kernel
theorem dX11_size_36 : decode cX11_size 36 = .ok (.iload_n 1, 1) := by decide +kernel
theorem dX11_size_37 : decode cX11_size 37 = .ok (.iaload, 1) := by decide +kernel
theorem dX11_size_38 : decode cX11_size 38 = .ok (.iconst 2, 1) := by decide +kernel
theorem dX11_size_39 : decode cX11_size 39 = .ok (.if_icmp .ne 11, 3) := by decide +kernel
theorem dX11_size_42 : decode cX11_size 42 = .ok (.aload_n 0, 1) := by decide +kernel
theorem dX11_size_43 : decode cX11_size 43 = .ok (.iload_n 1, 1) := by decide +kernel
theorem dX11_size_44 : decode cX11_size 44 = .ok (.invokevirtual 443, 3) := by decide +kernel
theorem dX11_size_47 : decode cX11_size 47 = .ok (.goto 9, 3) := by decide +kernel
theorem dX11_size_50 : decode cX11_size 50 = .ok (.aload_n 0, 1) := by decide +kernel
theorem dX11_size_51 : decode cX11_size 51 = .ok (.getfield 43, 3) := by decide +kernel
theorem dX11_size_54 : decode cX11_size 54 = .ok (.iload_n 1, 1) := by decide +kernel
theorem dX11_size_55 : decode cX11_size 55 = .ok (.iaload, 1) := by decide +kernel
theorem dX11_size_56 : decode cX11_size 56 = .ok (.ireturn, 1) := by decide +kernel
theorem dX11_parent_0 : decode cX11_parent 0 = .ok (.aload_n 0, 1) := by decide +kernel
theorem dX11_parent_1 : decode cX11_parent 1 = .ok (.getfield 7, 3) := by decide +kernel
theorem dX11_parent_4 : decode cX11_parent 4 = .ok (.ifCond .ne 6, 3) := by decide +kernel
theorem dX11_parent_7 : decode cX11_parent 7 = .ok (.bipush (-99), 2) := by decide +kernel
theorem dX11_parent_9 : decode cX11_parent 9 = .ok (.ireturn, 1) := by decide +kernel
theorem dX11_parent_10 : decode cX11_parent 10 = .ok (.aload_n 0, 1) := by decide +kernel
theorem dX11_parent_11 : decode cX11_parent 11 = .ok (.iload_n 1, 1) := by decide +kernel
theorem dX11_parent_12 : decode cX11_parent 12 = .ok (.invokevirtual 339, 3) := by decide +kernel
theorem dX11_parent_15 : decode cX11_parent 15 = .ok (.ifCond .eq 12, 3) := by decide +kernel
theorem dX11_parent_18 : decode cX11_parent 18 = .ok (.aload_n 0, 1) := by decide +kernel
theorem dX11_parent_19 : decode cX11_parent 19 = .ok (.getfield 46, 3) := by decide +kernel
theorem dX11_parent_22 : decode cX11_parent 22 = .ok (.iload_n 1, 1) := by decide +kernel
theorem dX11_parent_23 : decode cX11_parent 23 = .ok (.iaload, 1) := by decide +kernel
theorem dX11_parent_24 : decode cX11_parent 24 = .ok (.goto 5, 3) := by decide +kernel
theorem dX11_parent_27 : decode cX11_parent 27 = .ok (.bipush (-10), 2) := by decide +kernel
theorem dX11_parent_29 : decode cX11_parent 29 = .ok (.ireturn, 1) := by decide +kernel
theorem dX11_block_0 : decode cX11_block 0 = .ok (.aload_n 0, 1) := by decide +kernel
theorem dX11_block_1 : decode cX11_block 1 = .ok (.getfield 7, 3) := by decide +kernel
theorem dX11_block_4 : decode cX11_block 4 = .ok (.ifCond .ne 6, 3) := by decide +kernel
theorem dX11_block_7 : decode cX11_block 7 = .ok (.bipush (-99), 2) := by decide +kernel
theorem dX11_block_9 : decode cX11_block 9 = .ok (.ireturn, 1) := by decide +kernel
theorem dX11_block_10 : decode cX11_block 10 = .ok (.aload_n 0, 1) := by decide +kernel
theorem dX11_block_11 : decode cX11_block 11 = .ok (.iload_n 1, 1) := by decide +kernel
theorem dX11_block_12 : decode cX11_block 12 = .ok (.invokevirtual 336, 3) := by decide +kernel
theorem dX11_block_15 : decode cX11_block 15 = .ok (.ifCond .eq 9, 3) := by decide +kernel
theorem dX11_block_18 : decode cX11_block 18 = .ok (.iload_n 2, 1) := by decide +kernel
theorem dX11_block_19 : decode cX11_block 19 = .ok (.bipush (-34), 2) := by decide +kernel
theorem dX11_block_21 : decode cX11_block 21 = .ok (.if_icmp .ge 5, 3) := by decide +kernel
theorem dX11_block_24 : decode cX11_block 24 = .ok (.iconst (-1), 1) := by decide +kernel
theorem dX11_block_25 : decode cX11_block 25 = .ok (.ireturn, 1) := by decide +kernel
theorem dX11_block_26 : decode cX11_block 26 = .ok (.aload_n 0, 1) := by decide +kernel
theorem dX11_block_27 : decode cX11_block 27 = .ok (.getfield 40, 3) := by decide +kernel
theorem dX11_block_30 : decode cX11_block 30 = .ok (.iload_n 1, 1) := by decide +kernel
theorem dX11_block_31 : decode cX11_block 31 = .ok (.iaload, 1) := by decide +kernel
theorem dX11_block_32 : decode cX11_block 32 = .ok (.istore_n 3, 1) := by decide +kernel
theorem dX11_block_33 : decode cX11_block 33 = .ok (.iload_n 2, 1) := by decide +kernel
theorem dX11_block_34 : decode cX11_block 34 = .ok (.ifCond .ge 26, 3) := by decide +kernel
theorem dX11_block_37 : decode cX11_block 37 = .ok (.iload_n 3, 1) := by decide +kernel
theorem dX11_block_38 : decode cX11_block 38 = .ok (.iconst 1, 1) := by decide +kernel
theorem dX11_block_39 : decode cX11_block 39 = .ok (.if_icmp .ne 19, 3) := by decide +kernel
theorem dX11_block_42 : decode cX11_block 42 = .ok (.aload_n 0, 1) := by decide +kernel
theorem dX11_block_43 : decode cX11_block 43 = .ok (.getfield 56, 3) := by decide +kernel
theorem dX11_block_46 : decode cX11_block 46 = .ok (.bipush 34, 2) := by decide +kernel
theorem dX11_block_48 : decode cX11_block 48 = .ok (.iload_n 1, 1) := by decide +kernel
theorem dX11_block_49 : decode cX11_block 49 = .ok (.imul, 1) := by decide +kernel
theorem dX11_block_50 : decode cX11_block 50 = .ok (.iconst 1, 1) := by decide +kernel
theorem dX11_block_51 : decode cX11_block 51 = .ok (.isub, 1) := by decide +kernel
theorem dX11_block_52 : decode cX11_block 52 = .ok (.iload_n 2, 1) := by decide +kernel
theorem dX11_block_53 : decode cX11_block 53 = .ok (.isub, 1) := by decide +kernel
theorem dX11_block_54 : decode cX11_block 54 = .ok (.iaload, 1) := by decide +kernel
theorem dX11_block_55 : decode cX11_block 55 = .ok (.goto 4, 3) := by decide +kernel
theorem dX11_block_58 : decode cX11_block 58 = .ok (.iconst (-1), 1) := by decide +kernel
theorem dX11_block_59 : decode cX11_block 59 = .ok (.ireturn, 1) := by decide +kernel
theorem dX11_block_60 : decode cX11_block 60 = .ok (.iload_n 3, 1) := by decide +kernel
theorem dX11_block_61 : decode cX11_block 61 = .ok (.iconst 3, 1) := by decide +kernel
theorem dX11_block_62 : decode cX11_block 62 = .ok (.if_icmp .ne 27, 3) := by decide +kernel
theorem dX11_block_65 : decode cX11_block 65 = .ok (.iload_n 2, 1) := by decide +kernel
theorem dX11_block_66 : decode cX11_block 66 = .ok (.aload_n 0, 1) := by decide +kernel
theorem dX11_block_67 : decode cX11_block 67 = .ok (.getfield 165, 3) := by decide +kernel
theorem dX11_block_70 : decode cX11_block 70 = .ok (.if_icmp .ge 17, 3) := by decide +kernel
theorem dX11_block_73 : decode cX11_block 73 = .ok (.aload_n 0, 1) := by decide +kernel
theorem dX11_block_74 : decode cX11_block 74 = .ok (.getfield 65, 3) := by decide +kernel
theorem dX11_block_77 : decode cX11_block 77 = .ok (.bipush 12, 2) := by decide +kernel
theorem dX11_block_79 : decode cX11_block 79 = .ok (.iload_n 1, 1) := by decide +kernel
theorem dX11_block_80 : decode cX11_block 80 = .ok (.imul, 1) := by decide +kernel
theorem dX11_block_81 : decode cX11_block 81 = .ok (.iaload, 1) := by decide +kernel
theorem dX11_block_82 : decode cX11_block 82 = .ok (.iload_n 2, 1) := by decide +kernel
theorem dX11_block_83 : decode cX11_block 83 = .ok (.iadd, 1) := by decide +kernel
theorem dX11_block_84 : decode cX11_block 84 = .ok (.goto 4, 3) := by decide +kernel
theorem dX11_block_87 : decode cX11_block 87 = .ok (.iconst (-1), 1) := by decide +kernel
theorem dX11_block_88 : decode cX11_block 88 = .ok (.ireturn, 1) := by decide +kernel
theorem dX11_block_89 : decode cX11_block 89 = .ok (.iload_n 3, 1) := by decide +kernel
theorem dX11_block_90 : decode cX11_block 90 = .ok (.iconst 2, 1) := by decide +kernel
theorem dX11_block_91 : decode cX11_block 91 = .ok (.if_icmp .ne 29, 3) := by decide +kernel
theorem dX11_block_94 : decode cX11_block 94 = .ok (.iload_n 2, 1) := by decide +kernel
theorem dX11_block_95 : decode cX11_block 95 = .ok (.aload_n 0, 1) := by decide +kernel
theorem dX11_block_96 : decode cX11_block 96 = .ok (.getfield 49, 3) := by decide +kernel
theorem dX11_block_99 : decode cX11_block 99 = .ok (.iload_n 1, 1) := by decide +kernel
theorem dX11_block_100 : decode cX11_block 100 = .ok (.iaload, 1) := by decide +kernel
theorem dX11_block_101 : decode cX11_block 101 = .ok (.if_icmp .ge 17, 3) := by decide +kernel
theorem dX11_block_104 : decode cX11_block 104 = .ok (.aload_n 0, 1) := by decide +kernel
theorem dX11_block_105 : decode cX11_block 105 = .ok (.getfield 65, 3) := by decide +kernel
theorem dX11_block_108 : decode cX11_block 108 = .ok (.bipush 12, 2) := by decide +kernel
theorem dX11_block_110 : decode cX11_block 110 = .ok (.iload_n 1, 1) := by decide +kernel
theorem dX11_block_111 : decode cX11_block 111 = .ok (.imul, 1) := by decide +kernel
theorem dX11_block_112 : decode cX11_block 112 = .ok (.iload_n 2, 1) := by decide +kernel
theorem dX11_block_113 : decode cX11_block 113 = .ok (.iadd, 1) := by decide +kernel
theorem dX11_block_114 : decode cX11_block 114 = .ok (.iaload, 1) := by decide +kernel
theorem dX11_block_115 : decode cX11_block 115 = .ok (.goto 4, 3) := by decide +kernel
theorem dX11_block_118 : decode cX11_block 118 = .ok (.iconst (-1), 1) := by decide +kernel
theorem dX11_block_119 : decode cX11_block 119 = .ok (.ireturn, 1) := by decide +kernel
theorem dX11_block_120 : decode cX11_block 120 = .ok (.iload_n 3, 1) := by decide +kernel
theorem dX11_block_121 : decode cX11_block 121 = .ok (.iconst 1, 1) := by decide +kernel
theorem dX11_block_122 : decode cX11_block 122 = .ok (.if_icmp .ne 25, 3) := by decide +kernel
theorem dX11_block_125 : decode cX11_block 125 = .ok (.iload_n 2, 1) := by decide +kernel
theorem dX11_block_126 : decode cX11_block 126 = .ok (.sipush 1068, 3) := by decide +kernel
theorem dX11_block_129 : decode cX11_block 129 = .ok (.if_icmp .ge 18, 3) := by decide +kernel
theorem dX11_block_132 : decode cX11_block 132 = .ok (.aload_n 0, 1) := by decide +kernel
theorem dX11_block_133 : decode cX11_block 133 = .ok (.getfield 53, 3) := by decide +kernel
theorem dX11_block_136 : decode cX11_block 136 = .ok (.sipush 1068, 3) := by decide +kernel
theorem dX11_block_139 : decode cX11_block 139 = .ok (.iload_n 1, 1) := by decide +kernel
theorem dX11_block_140 : decode cX11_block 140 = .ok (.imul, 1) := by decide +kernel
theorem dX11_block_141 : decode cX11_block 141 = .ok (.iload_n 2, 1) := by decide +kernel
theorem dX11_block_142 : decode cX11_block 142 = .ok (.iadd, 1) := by decide +kernel
theorem dX11_block_143 : decode cX11_block 143 = .ok (.iaload, 1) := by decide +kernel
theorem dX11_block_144 : decode cX11_block 144 = .ok (.goto 4, 3) := by decide +kernel
theorem dX11_block_147 : decode cX11_block 147 = .ok (.iconst (-1), 1) := by decide +kernel
theorem dX11_block_148 : decode cX11_block 148 = .ok (.ireturn, 1) := by decide +kernel
theorem dX11_byteAt_0 : decode cX11_byteAt 0 = .ok (.aload_n 0, 1) := by decide +kernel
theorem dX11_byteAt_1 : decode cX11_byteAt 1 = .ok (.getfield 7, 3) := by decide +kernel
theorem dX11_byteAt_4 : decode cX11_byteAt 4 = .ok (.ifCond .ne 6, 3) := by decide +kernel
theorem dX11_byteAt_7 : decode cX11_byteAt 7 = .ok (.bipush (-99), 2) := by decide +kernel
theorem dX11_byteAt_9 : decode cX11_byteAt 9 = .ok (.ireturn, 1) := by decide +kernel
theorem dX11_byteAt_10 : decode cX11_byteAt 10 = .ok (.aload_n 0, 1) := by decide +kernel
theorem dX11_byteAt_11 : decode cX11_byteAt 11 = .ok (.iload_n 1, 1) := by decide +kernel
theorem dX11_byteAt_12 : decode cX11_byteAt 12 = .ok (.invokevirtual 336, 3) := by decide +kernel
theorem dX11_byteAt_15 : decode cX11_byteAt 15 = .ok (.ifCond .eq 17, 3) := by decide +kernel
theorem dX11_byteAt_18 : decode cX11_byteAt 18 = .ok (.aload_n 0, 1) := by decide +kernel
theorem dX11_byteAt_19 : decode cX11_byteAt 19 = .ok (.getfield 40, 3) := by decide +kernel
theorem dX11_byteAt_22 : decode cX11_byteAt 22 = .ok (.iload_n 1, 1) := by decide +kernel
theorem dX11_byteAt_23 : decode cX11_byteAt 23 = .ok (.iaload, 1) := by decide +kernel
theorem dX11_byteAt_24 : decode cX11_byteAt 24 = .ok (.iconst 4, 1) := by decide +kernel
theorem dX11_byteAt_25 : decode cX11_byteAt 25 = .ok (.if_icmp .ne 7, 3) := by decide +kernel
theorem dX11_byteAt_28 : decode cX11_byteAt 28 = .ok (.iconst 1, 1) := by decide +kernel
theorem dX11_byteAt_29 : decode cX11_byteAt 29 = .ok (.goto 4, 3) := by decide +kernel
theorem dX11_byteAt_32 : decode cX11_byteAt 32 = .ok (.iconst 0, 1) := by decide +kernel
theorem dX11_byteAt_33 : decode cX11_byteAt 33 = .ok (.istore_n 3, 1) := by decide +kernel
theorem dX11_byteAt_34 : decode cX11_byteAt 34 = .ok (.iload_n 3, 1) := by decide +kernel
theorem dX11_byteAt_35 : decode cX11_byteAt 35 = .ok (.ifCond .ne 15, 3) := by decide +kernel
theorem dX11_byteAt_38 : decode cX11_byteAt 38 = .ok (.aload_n 0, 1) := by decide +kernel
theorem dX11_byteAt_39 : decode cX11_byteAt 39 = .ok (.iload_n 1, 1) := by decide +kernel
theorem dX11_byteAt_40 : decode cX11_byteAt 40 = .ok (.iconst 1, 1) := by decide +kernel
theorem dX11_byteAt_41 : decode cX11_byteAt 41 = .ok (.invokevirtual 373, 3) := by decide +kernel
theorem dX11_byteAt_44 : decode cX11_byteAt 44 = .ok (.ifCond .ne 6, 3) := by decide +kernel
theorem dX11_byteAt_47 : decode cX11_byteAt 47 = .ok (.bipush (-14), 2) := by decide +kernel
theorem dX11_byteAt_49 : decode cX11_byteAt 49 = .ok (.ireturn, 1) := by decide +kernel
theorem dX11_byteAt_50 : decode cX11_byteAt 50 = .ok (.iload_n 3, 1) := by decide +kernel
theorem dX11_byteAt_51 : decode cX11_byteAt 51 = .ok (.ifCond .ne 15, 3) := by decide +kernel
theorem dX11_byteAt_54 : decode cX11_byteAt 54 = .ok (.aload_n 0, 1) := by decide +kernel
theorem dX11_byteAt_55 : decode cX11_byteAt 55 = .ok (.iload_n 1, 1) := by decide +kernel
theorem dX11_byteAt_56 : decode cX11_byteAt 56 = .ok (.iconst 4, 1) := by decide +kernel
theorem dX11_byteAt_57 : decode cX11_byteAt 57 = .ok (.invokevirtual 346, 3) := by decide +kernel
theorem dX11_byteAt_60 : decode cX11_byteAt 60 = .ok (.ifCond .ne 6, 3) := by decide +kernel
theorem dX11_byteAt_63 : decode cX11_byteAt 63 = .ok (.bipush (-20), 2) := by decide +kernel
theorem dX11_byteAt_65 : decode cX11_byteAt 65 = .ok (.ireturn, 1) := by decide +kernel
theorem dX11_byteAt_66 : decode cX11_byteAt 66 = .ok (.iload_n 2, 1) := by decide +kernel
theorem dX11_byteAt_67 : decode cX11_byteAt 67 = .ok (.ifCond .lt 13, 3) := by decide +kernel
theorem dX11_byteAt_70 : decode cX11_byteAt 70 = .ok (.iload_n 2, 1) := by decide +kernel
theorem dX11_byteAt_71 : decode cX11_byteAt 71 = .ok (.aload_n 0, 1) := by decide +kernel
theorem dX11_byteAt_72 : decode cX11_byteAt 72 = .ok (.getfield 43, 3) := by decide +kernel
theorem dX11_byteAt_75 : decode cX11_byteAt 75 = .ok (.iload_n 1, 1) := by decide +kernel
theorem dX11_byteAt_76 : decode cX11_byteAt 76 = .ok (.iaload, 1) := by decide +kernel
theorem dX11_byteAt_77 : decode cX11_byteAt 77 = .ok (.if_icmp .lt 5, 3) := by decide +kernel
theorem dX11_byteAt_80 : decode cX11_byteAt 80 = .ok (.iconst (-1), 1) := by decide +kernel
theorem dX11_byteAt_81 : decode cX11_byteAt 81 = .ok (.ireturn, 1) := by decide +kernel
theorem dX11_byteAt_82 : decode cX11_byteAt 82 = .ok (.iload_n 3, 1) := by decide +kernel
theorem dX11_byteAt_83 : decode cX11_byteAt 83 = .ok (.ifCond .eq 19, 3) := by decide +kernel
theorem dX11_byteAt_86 : decode cX11_byteAt 86 = .ok (.aload_n 0, 1) := by decide +kernel
theorem dX11_byteAt_87 : decode cX11_byteAt 87 = .ok (.getfield 78, 3) := by decide +kernel
theorem dX11_byteAt_90 : decode cX11_byteAt 90 = .ok (.bipush 40, 2) := by decide +kernel
theorem dX11_byteAt_92 : decode cX11_byteAt 92 = .ok (.iload_n 1, 1) := by decide +kernel
theorem dX11_byteAt_93 : decode cX11_byteAt 93 = .ok (.imul, 1) := by decide +kernel
theorem dX11_byteAt_94 : decode cX11_byteAt 94 = .ok (.iload_n 2, 1) := by decide +kernel
theorem dX11_byteAt_95 : decode cX11_byteAt 95 = .ok (.iadd, 1) := by decide +kernel
theorem dX11_byteAt_96 : decode cX11_byteAt 96 = .ok (.baload, 1) := by decide +kernel
theorem dX11_byteAt_97 : decode cX11_byteAt 97 = .ok (.sipush 255, 3) := by decide +kernel
theorem dX11_byteAt_100 : decode cX11_byteAt 100 = .ok (.iand, 1) := by decide +kernel
theorem dX11_byteAt_101 : decode cX11_byteAt 101 = .ok (.ireturn, 1) := by decide +kernel
theorem dX11_byteAt_102 : decode cX11_byteAt 102 = .ok (.aload_n 0, 1) := by decide +kernel
theorem dX11_byteAt_103 : decode cX11_byteAt 103 = .ok (.iload_n 1, 1) := by decide +kernel
theorem dX11_byteAt_104 : decode cX11_byteAt 104 = .ok (.iload_n 2, 1) := by decide +kernel
theorem dX11_byteAt_105 : decode cX11_byteAt 105 = .ok (.bipush 64, 2) := by decide +kernel
theorem dX11_byteAt_107 : decode cX11_byteAt 107 = .ok (.idiv, 1) := by decide +kernel
theorem dX11_byteAt_108 : decode cX11_byteAt 108 = .ok (.invokevirtual 428, 3) := by decide +kernel
theorem dX11_byteAt_111 : decode cX11_byteAt 111 = .ok (.istore 4, 2) := by decide +kernel
theorem dX11_byteAt_113 : decode cX11_byteAt 113 = .ok (.iload 4, 2) := by decide +kernel
theorem dX11_byteAt_115 : decode cX11_byteAt 115 = .ok (.iconst (-1), 1) := by decide +kernel
theorem dX11_byteAt_116 : decode cX11_byteAt 116 = .ok (.if_icmp .ne 7, 3) := by decide +kernel
theorem dX11_byteAt_119 : decode cX11_byteAt 119 = .ok (.iconst 0, 1) := by decide +kernel
theorem dX11_byteAt_120 : decode cX11_byteAt 120 = .ok (.goto 22, 3) := by decide +kernel
theorem dX11_byteAt_123 : decode cX11_byteAt 123 = .ok (.aload_n 0, 1) := by decide +kernel
theorem dX11_byteAt_124 : decode cX11_byteAt 124 = .ok (.getfield 86, 3) := by decide +kernel
theorem dX11_byteAt_127 : decode cX11_byteAt 127 = .ok (.bipush 64, 2) := by decide +kernel
theorem dX11_byteAt_129 : decode cX11_byteAt 129 = .ok (.iload 4, 2) := by decide +kernel
theorem dX11_byteAt_131 : decode cX11_byteAt 131 = .ok (.imul, 1) := by decide +kernel
theorem dX11_byteAt_132 : decode cX11_byteAt 132 = .ok (.iload_n 2, 1) := by decide +kernel
theorem dX11_byteAt_133 : decode cX11_byteAt 133 = .ok (.bipush 64, 2) := by decide +kernel
theorem dX11_byteAt_135 : decode cX11_byteAt 135 = .ok (.irem, 1) := by decide +kernel
theorem dX11_byteAt_136 : decode cX11_byteAt 136 = .ok (.iadd, 1) := by decide +kernel
theorem dX11_byteAt_137 : decode cX11_byteAt 137 = .ok (.baload, 1) := by decide +kernel
theorem dX11_byteAt_138 : decode cX11_byteAt 138 = .ok (.sipush 255, 3) := by decide +kernel
theorem dX11_byteAt_141 : decode cX11_byteAt 141 = .ok (.iand, 1) := by decide +kernel
theorem dX11_byteAt_142 : decode cX11_byteAt 142 = .ok (.ireturn, 1) := by decide +kernel
theorem dX11_check_0 : decode cX11_check 0 = .ok (.aload_n 0, 1) := by decide +kernel
theorem dX11_check_1 : decode cX11_check 1 = .ok (.getfield 7, 3) := by decide +kernel
theorem dX11_check_4 : decode cX11_check 4 = .ok (.ifCond .eq 7, 3) := by decide +kernel
theorem dX11_check_7 : decode cX11_check 7 = .ok (.iconst 0, 1) := by decide +kernel
theorem dX11_check_8 : decode cX11_check 8 = .ok (.goto 5, 3) := by decide +kernel
theorem dX11_check_11 : decode cX11_check 11 = .ok (.bipush (-99), 2) := by decide +kernel
theorem dX11_check_13 : decode cX11_check 13 = .ok (.ireturn, 1) := by decide +kernel
theorem dX11_scrub_0 : decode cX11_scrub 0 = .ok (.aload_n 0, 1) := by decide +kernel
theorem dX11_scrub_1 : decode cX11_scrub 1 = .ok (.getfield 7, 3) := by decide +kernel
theorem dX11_scrub_4 : decode cX11_scrub 4 = .ok (.ifCond .eq 15, 3) := by decide +kernel
theorem dX11_scrub_7 : decode cX11_scrub 7 = .ok (.aload_n 0, 1) := by decide +kernel
theorem dX11_scrub_8 : decode cX11_scrub 8 = .ok (.getfield 168, 3) := by decide +kernel
theorem dX11_scrub_11 : decode cX11_scrub 11 = .ok (.aload_n 0, 1) := by decide +kernel
theorem dX11_scrub_12 : decode cX11_scrub 12 = .ok (.invokevirtual 422, 3) := by decide +kernel
theorem dX11_scrub_15 : decode cX11_scrub 15 = .ok (.isub, 1) := by decide +kernel
theorem dX11_scrub_16 : decode cX11_scrub 16 = .ok (.goto 5, 3) := by decide +kernel
theorem dX11_scrub_19 : decode cX11_scrub 19 = .ok (.bipush (-99), 2) := by decide +kernel
theorem dX11_scrub_21 : decode cX11_scrub 21 = .ok (.ireturn, 1) := by decide +kernel
theorem dX11_where_0 : decode cX11_where 0 = .ok (.aload_n 0, 1) := by decide +kernel
theorem dX11_where_1 : decode cX11_where 1 = .ok (.getfield 7, 3) := by decide +kernel
theorem dX11_where_4 : decode cX11_where 4 = .ok (.ifCond .ne 6, 3) := by decide +kernel
theorem dX11_where_7 : decode cX11_where 7 = .ok (.bipush (-99), 2) := by decide +kernel
theorem dX11_where_9 : decode cX11_where 9 = .ok (.ireturn, 1) := by decide +kernel
theorem dX11_where_10 : decode cX11_where 10 = .ok (.iload_n 1, 1) := by decide +kernel
theorem dX11_where_11 : decode cX11_where 11 = .ok (.ifCond .lt 11, 3) := by decide +kernel
theorem dX11_where_14 : decode cX11_where 14 = .ok (.iload_n 1, 1) := by decide +kernel
theorem dX11_where_15 : decode cX11_where 15 = .ok (.aload_n 0, 1) := by decide +kernel
theorem dX11_where_16 : decode cX11_where 16 = .ok (.getfield 168, 3) := by decide +kernel
theorem dX11_where_19 : decode cX11_where 19 = .ok (.if_icmp .lt 6, 3) := by decide +kernel
theorem dX11_where_22 : decode cX11_where 22 = .ok (.bipush (-15), 2) := by decide +kernel
theorem dX11_where_24 : decode cX11_where 24 = .ok (.ireturn, 1) := by decide +kernel
theorem dX11_where_25 : decode cX11_where 25 = .ok (.aload_n 0, 1) := by decide +kernel
theorem dX11_where_26 : decode cX11_where 26 = .ok (.getfield 28, 3) := by decide +kernel
theorem dX11_where_29 : decode cX11_where 29 = .ok (.iload_n 1, 1) := by decide +kernel
theorem dX11_where_30 : decode cX11_where 30 = .ok (.iaload, 1) := by decide +kernel
theorem dX11_where_31 : decode cX11_where 31 = .ok (.iconst (-1), 1) := by decide +kernel
theorem dX11_where_32 : decode cX11_where 32 = .ok (.if_icmp .eq 25, 3) := by decide +kernel
theorem dX11_where_35 : decode cX11_where 35 = .ok (.aload_n 0, 1) := by decide +kernel
theorem dX11_where_36 : decode cX11_where 36 = .ok (.aload_n 0, 1) := by decide +kernel
theorem dX11_where_37 : decode cX11_where 37 = .ok (.getfield 28, 3) := by decide +kernel
theorem dX11_where_40 : decode cX11_where 40 = .ok (.iload_n 1, 1) := by decide +kernel
theorem dX11_where_41 : decode cX11_where 41 = .ok (.iaload, 1) := by decide +kernel
theorem dX11_where_42 : decode cX11_where 42 = .ok (.invokevirtual 205, 3) := by decide +kernel
theorem dX11_where_45 : decode cX11_where 45 = .ok (.ifCond .eq 12, 3) := by decide +kernel
theorem dX11_where_48 : decode cX11_where 48 = .ok (.aload_n 0, 1) := by decide +kernel
theorem dX11_where_49 : decode cX11_where 49 = .ok (.getfield 28, 3) := by decide +kernel
theorem dX11_where_52 : decode cX11_where 52 = .ok (.iload_n 1, 1) := by decide +kernel
theorem dX11_where_53 : decode cX11_where 53 = .ok (.iaload, 1) := by decide +kernel
theorem dX11_where_54 : decode cX11_where 54 = .ok (.goto 4, 3) := by decide +kernel
theorem dX11_where_57 : decode cX11_where 57 = .ok (.iconst (-1), 1) := by decide +kernel
theorem dX11_where_58 : decode cX11_where 58 = .ok (.ireturn, 1) := by decide +kernel
theorem dX11_mark_0 : decode cX11_mark 0 = .ok (.aload_n 0, 1) := by decide +kernel
theorem dX11_mark_1 : decode cX11_mark 1 = .ok (.getfield 7, 3) := by decide +kernel
theorem dX11_mark_4 : decode cX11_mark 4 = .ok (.ifCond .ne 6, 3) := by decide +kernel
theorem dX11_mark_7 : decode cX11_mark 7 = .ok (.bipush (-99), 2) := by decide +kernel
theorem dX11_mark_9 : decode cX11_mark 9 = .ok (.ireturn, 1) := by decide +kernel
theorem dX11_mark_10 : decode cX11_mark 10 = .ok (.iload_n 1, 1) := by decide +kernel
theorem dX11_mark_11 : decode cX11_mark 11 = .ok (.ifCond .lt 11, 3) := by decide +kernel
theorem dX11_mark_14 : decode cX11_mark 14 = .ok (.iload_n 1, 1) := by decide +kernel
theorem dX11_mark_15 : decode cX11_mark 15 = .ok (.aload_n 0, 1) := by decide +kernel
theorem dX11_mark_16 : decode cX11_mark 16 = .ok (.getfield 153, 3) := by decide +kernel
theorem dX11_mark_19 : decode cX11_mark 19 = .ok (.if_icmp .lt 8, 3) := by decide +kernel
theorem dX11_mark_22 : decode cX11_mark 22 = .ok (.bipush (-15), 2) := by decide +kernel
theorem dX11_mark_24 : decode cX11_mark 24 = .ok (.goto 9, 3) := by decide +kernel
theorem dX11_mark_27 : decode cX11_mark 27 = .ok (.aload_n 0, 1) := by decide +kernel
theorem dX11_mark_28 : decode cX11_mark 28 = .ok (.getfield 31, 3) := by decide +kernel
theorem dX11_mark_31 : decode cX11_mark 31 = .ok (.iload_n 1, 1) := by decide +kernel
theorem dX11_mark_32 : decode cX11_mark 32 = .ok (.iaload, 1) := by decide +kernel
theorem dX11_mark_33 : decode cX11_mark 33 = .ok (.ireturn, 1) := by decide +kernel
theorem dX11_lost_0 : decode cX11_lost 0 = .ok (.iconst 0, 1) := by decide +kernel
theorem dX11_lost_1 : decode cX11_lost 1 = .ok (.istore_n 1, 1) := by decide +kernel
theorem dX11_lost_2 : decode cX11_lost 2 = .ok (.iconst 0, 1) := by decide +kernel
theorem dX11_lost_3 : decode cX11_lost 3 = .ok (.istore_n 2, 1) := by decide +kernel
theorem dX11_lost_4 : decode cX11_lost 4 = .ok (.iload_n 2, 1) := by decide +kernel
theorem dX11_lost_5 : decode cX11_lost 5 = .ok (.aload_n 0, 1) := by decide +kernel
theorem dX11_lost_6 : decode cX11_lost 6 = .ok (.getfield 168, 3) := by decide +kernel
theorem dX11_lost_9 : decode cX11_lost 9 = .ok (.if_icmp .ge 26, 3) := by decide +kernel
theorem dX11_lost_12 : decode cX11_lost 12 = .ok (.iload_n 1, 1) := by decide +kernel
theorem dX11_lost_13 : decode cX11_lost 13 = .ok (.aload_n 0, 1) := by decide +kernel
theorem dX11_lost_14 : decode cX11_lost 14 = .ok (.getfield 17, 3) := by decide +kernel
theorem dX11_lost_17 : decode cX11_lost 17 = .ok (.iload_n 2, 1) := by decide +kernel
theorem dX11_lost_18 : decode cX11_lost 18 = .ok (.baload, 1) := by decide +kernel
theorem dX11_lost_19 : decode cX11_lost 19 = .ok (.ifCond .eq 7, 3) := by decide +kernel
theorem dX11_lost_22 : decode cX11_lost 22 = .ok (.iconst 1, 1) := by decide +kernel
theorem dX11_lost_23 : decode cX11_lost 23 = .ok (.goto 4, 3) := by decide +kernel
theorem dX11_lost_26 : decode cX11_lost 26 = .ok (.iconst 0, 1) := by decide +kernel
theorem dX11_lost_27 : decode cX11_lost 27 = .ok (.iadd, 1) := by decide +kernel
theorem dX11_lost_28 : decode cX11_lost 28 = .ok (.istore_n 1, 1) := by decide +kernel
theorem dX11_lost_29 : decode cX11_lost 29 = .ok (.iinc 2 1, 3) := by decide +kernel
theorem dX11_lost_32 : decode cX11_lost 32 = .ok (.goto (-28), 3) := by decide +kernel
theorem dX11_lost_35 : decode cX11_lost 35 = .ok (.iconst 0, 1) := by decide +kernel
theorem dX11_lost_36 : decode cX11_lost 36 = .ok (.istore_n 2, 1) := by decide +kernel
theorem dX11_lost_37 : decode cX11_lost 37 = .ok (.iload_n 2, 1) := by decide +kernel
theorem dX11_lost_38 : decode cX11_lost 38 = .ok (.aload_n 0, 1) := by decide +kernel
theorem dX11_lost_39 : decode cX11_lost 39 = .ok (.getfield 165, 3) := by decide +kernel
theorem dX11_lost_42 : decode cX11_lost 42 = .ok (.if_icmp .ge 26, 3) := by decide +kernel
theorem dX11_lost_45 : decode cX11_lost 45 = .ok (.iload_n 1, 1) := by decide +kernel
theorem dX11_lost_46 : decode cX11_lost 46 = .ok (.aload_n 0, 1) := by decide +kernel
theorem dX11_lost_47 : decode cX11_lost 47 = .ok (.getfield 21, 3) := by decide +kernel
theorem dX11_lost_50 : decode cX11_lost 50 = .ok (.iload_n 2, 1) := by decide +kernel
theorem dX11_lost_51 : decode cX11_lost 51 = .ok (.baload, 1) := by decide +kernel
theorem dX11_lost_52 : decode cX11_lost 52 = .ok (.ifCond .eq 7, 3) := by decide +kernel
theorem dX11_lost_55 : decode cX11_lost 55 = .ok (.iconst 1, 1) := by decide +kernel
theorem dX11_lost_56 : decode cX11_lost 56 = .ok (.goto 4, 3) := by decide +kernel
theorem dX11_lost_59 : decode cX11_lost 59 = .ok (.iconst 0, 1) := by decide +kernel
theorem dX11_lost_60 : decode cX11_lost 60 = .ok (.iadd, 1) := by decide +kernel
theorem dX11_lost_61 : decode cX11_lost 61 = .ok (.istore_n 1, 1) := by decide +kernel
theorem dX11_lost_62 : decode cX11_lost 62 = .ok (.iinc 2 1, 3) := by decide +kernel
theorem dX11_lost_65 : decode cX11_lost 65 = .ok (.goto (-28), 3) := by decide +kernel
theorem dX11_lost_68 : decode cX11_lost 68 = .ok (.iload_n 1, 1) := by decide +kernel
theorem dX11_lost_69 : decode cX11_lost 69 = .ok (.ireturn, 1) := by decide +kernel
theorem dX11_freeNodes_0 : decode cX11_freeNodes 0 = .ok (.iconst 0, 1) := by decide +kernel
theorem dX11_freeNodes_1 : decode cX11_freeNodes 1 = .ok (.istore_n 1, 1) := by decide +kernel
theorem dX11_freeNodes_2 : decode cX11_freeNodes 2 = .ok (.iconst 0, 1) := by decide +kernel
theorem dX11_freeNodes_3 : decode cX11_freeNodes 3 = .ok (.istore_n 2, 1) := by decide +kernel
theorem dX11_freeNodes_4 : decode cX11_freeNodes 4 = .ok (.iload_n 2, 1) := by decide +kernel
theorem dX11_freeNodes_5 : decode cX11_freeNodes 5 = .ok (.bipush 64, 2) := by decide +kernel
theorem dX11_freeNodes_7 : decode cX11_freeNodes 7 = .ok (.if_icmp .ge 26, 3) := by decide +kernel
theorem dX11_freeNodes_10 : decode cX11_freeNodes 10 = .ok (.iload_n 1, 1) := by decide +kernel
theorem dX11_freeNodes_11 : decode cX11_freeNodes 11 = .ok (.aload_n 0, 1) := by decide +kernel
theorem dX11_freeNodes_12 : decode cX11_freeNodes 12 = .ok (.getfield 40, 3) := by decide +kernel
theorem dX11_freeNodes_15 : decode cX11_freeNodes 15 = .ok (.iload_n 2, 1) := by decide +kernel
theorem dX11_freeNodes_16 : decode cX11_freeNodes 16 = .ok (.iaload, 1) := by decide +kernel
theorem dX11_freeNodes_17 : decode cX11_freeNodes 17 = .ok (.ifCond .ne 7, 3) := by decide +kernel
theorem dX11_freeNodes_20 : decode cX11_freeNodes 20 = .ok (.iconst 1, 1) := by decide +kernel
theorem dX11_freeNodes_21 : decode cX11_freeNodes 21 = .ok (.goto 4, 3) := by decide +kernel
theorem dX11_freeNodes_24 : decode cX11_freeNodes 24 = .ok (.iconst 0, 1) := by decide +kernel
theorem dX11_freeNodes_25 : decode cX11_freeNodes 25 = .ok (.iadd, 1) := by decide +kernel
theorem dX11_freeNodes_26 : decode cX11_freeNodes 26 = .ok (.istore_n 1, 1) := by decide +kernel
theorem dX11_freeNodes_27 : decode cX11_freeNodes 27 = .ok (.iinc 2 1, 3) := by decide +kernel
theorem dX11_freeNodes_30 : decode cX11_freeNodes 30 = .ok (.goto (-26), 3) := by decide +kernel
theorem dX11_freeNodes_33 : decode cX11_freeNodes 33 = .ok (.iload_n 1, 1) := by decide +kernel
theorem dX11_freeNodes_34 : decode cX11_freeNodes 34 = .ok (.ireturn, 1) := by decide +kernel
theorem dX11_now_0 : decode cX11_now 0 = .ok (.iload_n 1, 1) := by decide +kernel
theorem dX11_now_1 : decode cX11_now 1 = .ok (.tableswitch 95 5 15 #[59, 64, 70, 75, 80, 95, 95, 95, 95, 85, 90], 59) := by decide +kernel
theorem dX11_now_60 : decode cX11_now 60 = .ok (.aload_n 0, 1) := by decide +kernel
theorem dX11_now_61 : decode cX11_now 61 = .ok (.invokevirtual 255, 3) := by decide +kernel
theorem dX11_now_64 : decode cX11_now 64 = .ok (.ireturn, 1) := by decide +kernel
theorem dX11_now_65 : decode cX11_now 65 = .ok (.aload_n 0, 1) := by decide +kernel
theorem dX11_now_66 : decode cX11_now 66 = .ok (.iconst (-1), 1) := by decide +kernel
theorem dX11_now_67 : decode cX11_now 67 = .ok (.invokevirtual 209, 3) := by decide +kernel
theorem dX11_now_70 : decode cX11_now 70 = .ok (.ireturn, 1) := by decide +kernel
theorem dX11_now_71 : decode cX11_now 71 = .ok (.aload_n 0, 1) := by decide +kernel
theorem dX11_now_72 : decode cX11_now 72 = .ok (.getfield 267, 3) := by decide +kernel
theorem dX11_now_75 : decode cX11_now 75 = .ok (.ireturn, 1) := by decide +kernel
theorem dX11_now_76 : decode cX11_now 76 = .ok (.aload_n 0, 1) := by decide +kernel
theorem dX11_now_77 : decode cX11_now 77 = .ok (.invokevirtual 422, 3) := by decide +kernel
theorem dX11_now_80 : decode cX11_now 80 = .ok (.ireturn, 1) := by decide +kernel
theorem dX11_now_81 : decode cX11_now 81 = .ok (.aload_n 0, 1) := by decide +kernel
theorem dX11_now_82 : decode cX11_now 82 = .ok (.invokevirtual 479, 3) := by decide +kernel
theorem dX11_now_85 : decode cX11_now 85 = .ok (.ireturn, 1) := by decide +kernel
theorem dX11_now_86 : decode cX11_now 86 = .ok (.aload_n 0, 1) := by decide +kernel
theorem dX11_now_87 : decode cX11_now 87 = .ok (.getfield 34, 3) := by decide +kernel
theorem dX11_now_90 : decode cX11_now 90 = .ok (.ireturn, 1) := by decide +kernel
theorem dX11_now_91 : decode cX11_now 91 = .ok (.aload_n 0, 1) := by decide +kernel
theorem dX11_now_92 : decode cX11_now 92 = .ok (.invokevirtual 223, 3) := by decide +kernel
theorem dX11_now_95 : decode cX11_now 95 = .ok (.ireturn, 1) := by decide +kernel
theorem dX11_now_96 : decode cX11_now 96 = .ok (.iconst (-1), 1) := by decide +kernel
theorem dX11_now_97 : decode cX11_now 97 = .ok (.ireturn, 1) := by decide +kernel
theorem dX11_count_0 : decode cX11_count 0 = .ok (.iload_n 1, 1) := by decide +kernel
theorem dX11_count_1 : decode cX11_count 1 = .ok (.tableswitch 113 0 13 #[71, 76, 81, 86, 91, 113, 113, 113, 113, 113, 96, 101, 103, 108], 71) := by decide +kernel
theorem dX11_count_72 : decode cX11_count 72 = .ok (.aload_n 0, 1) := by decide +kernel
theorem dX11_count_73 : decode cX11_count 73 = .ok (.getfield 261, 3) := by decide +kernel
theorem dX11_count_76 : decode cX11_count 76 = .ok (.ireturn, 1) := by decide +kernel
theorem dX11_count_77 : decode cX11_count 77 = .ok (.aload_n 0, 1) := by decide +kernel
theorem dX11_count_78 : decode cX11_count 78 = .ok (.getfield 193, 3) := by decide +kernel
theorem dX11_count_81 : decode cX11_count 81 = .ok (.ireturn, 1) := by decide +kernel
theorem dX11_count_82 : decode cX11_count 82 = .ok (.aload_n 0, 1) := by decide +kernel
theorem dX11_count_83 : decode cX11_count 83 = .ok (.getfield 196, 3) := by decide +kernel
theorem dX11_count_86 : decode cX11_count 86 = .ok (.ireturn, 1) := by decide +kernel
theorem dX11_count_87 : decode cX11_count 87 = .ok (.aload_n 0, 1) := by decide +kernel
theorem dX11_count_88 : decode cX11_count 88 = .ok (.getfield 190, 3) := by decide +kernel
theorem dX11_count_91 : decode cX11_count 91 = .ok (.ireturn, 1) := by decide +kernel
theorem dX11_count_92 : decode cX11_count 92 = .ok (.aload_n 0, 1) := by decide +kernel
theorem dX11_count_93 : decode cX11_count 93 = .ok (.getfield 252, 3) := by decide +kernel
theorem dX11_count_96 : decode cX11_count 96 = .ok (.ireturn, 1) := by decide +kernel
theorem dX11_count_97 : decode cX11_count 97 = .ok (.aload_n 0, 1) := by decide +kernel
theorem dX11_count_98 : decode cX11_count 98 = .ok (.getfield 276, 3) := by decide +kernel
theorem dX11_count_101 : decode cX11_count 101 = .ok (.ireturn, 1) := by decide +kernel
theorem dX11_count_102 : decode cX11_count 102 = .ok (.iconst 0, 1) := by decide +kernel
theorem dX11_count_103 : decode cX11_count 103 = .ok (.ireturn, 1) := by decide +kernel
theorem dX11_count_104 : decode cX11_count 104 = .ok (.aload_n 0, 1) := by decide +kernel
theorem dX11_count_105 : decode cX11_count 105 = .ok (.invokevirtual 473, 3) := by decide +kernel
theorem dX11_count_108 : decode cX11_count 108 = .ok (.ireturn, 1) := by decide +kernel
theorem dX11_count_109 : decode cX11_count 109 = .ok (.aload_n 0, 1) := by decide +kernel
theorem dX11_count_110 : decode cX11_count 110 = .ok (.getfield 168, 3) := by decide +kernel
theorem dX11_count_113 : decode cX11_count 113 = .ok (.ireturn, 1) := by decide +kernel
theorem dX11_count_114 : decode cX11_count 114 = .ok (.aload_n 0, 1) := by decide +kernel
theorem dX11_count_115 : decode cX11_count 115 = .ok (.getfield 7, 3) := by decide +kernel
theorem dX11_count_118 : decode cX11_count 118 = .ok (.ifCond .eq 11, 3) := by decide +kernel
theorem dX11_count_121 : decode cX11_count 121 = .ok (.aload_n 0, 1) := by decide +kernel
theorem dX11_count_122 : decode cX11_count 122 = .ok (.iload_n 1, 1) := by decide +kernel
theorem dX11_count_123 : decode cX11_count 123 = .ok (.invokevirtual 476, 3) := by decide +kernel
theorem dX11_count_126 : decode cX11_count 126 = .ok (.goto 5, 3) := by decide +kernel
theorem dX11_count_129 : decode cX11_count 129 = .ok (.bipush (-99), 2) := by decide +kernel
theorem dX11_count_131 : decode cX11_count 131 = .ok (.ireturn, 1) := by decide +kernel
