theorem dX9_stepOf_69 : decode cX9_stepOf 69 = .ok (.goto 6, 3) := by decide +kernel
theorem dX9_stepOf_72 : decode cX9_stepOf 72 = .ok (.ldc2_w 98, 3) := by decide +kernel
theorem dX9_stepOf_75 : decode cX9_stepOf 75 = .ok (.lreturn, 1) := by decide +kernel
theorem dX9_top_0 : decode cX9_top 0 = .ok (.aload_n 0, 1) := by decide +kernel
theorem dX9_top_1 : decode cX9_top 1 = .ok (.getfield 100, 3) := by decide +kernel
theorem dX9_top_4 : decode cX9_top 4 = .ok (.ifCond .ne 7, 3) := by decide +kernel
theorem dX9_top_7 : decode cX9_top 7 = .ok (.iconst 0, 1) := by decide +kernel
theorem dX9_top_8 : decode cX9_top 8 = .ok (.goto 14, 3) := by decide +kernel
theorem dX9_top_11 : decode cX9_top 11 = .ok (.aload_n 0, 1) := by decide +kernel
theorem dX9_top_12 : decode cX9_top 12 = .ok (.getfield 39, 3) := by decide +kernel
theorem dX9_top_15 : decode cX9_top 15 = .ok (.aload_n 0, 1) := by decide +kernel
theorem dX9_top_16 : decode cX9_top 16 = .ok (.getfield 100, 3) := by decide +kernel
theorem dX9_top_19 : decode cX9_top 19 = .ok (.iconst 1, 1) := by decide +kernel
theorem dX9_top_20 : decode cX9_top 20 = .ok (.isub, 1) := by decide +kernel
theorem dX9_top_21 : decode cX9_top 21 = .ok (.iaload, 1) := by decide +kernel
theorem dX9_top_22 : decode cX9_top 22 = .ok (.ireturn, 1) := by decide +kernel
theorem dX9_settles_0 : decode cX9_settles 0 = .ok (.aload_n 0, 1) := by decide +kernel
theorem dX9_settles_1 : decode cX9_settles 1 = .ok (.getfield 100, 3) := by decide +kernel
theorem dX9_settles_4 : decode cX9_settles 4 = .ok (.ifCond .le 53, 3) := by decide +kernel
theorem dX9_settles_7 : decode cX9_settles 7 = .ok (.aload_n 0, 1) := by decide +kernel
theorem dX9_settles_8 : decode cX9_settles 8 = .ok (.invokevirtual 103, 3) := by decide +kernel
theorem dX9_settles_11 : decode cX9_settles 11 = .ok (.invokestatic 106, 3) := by decide +kernel
theorem dX9_settles_14 : decode cX9_settles 14 = .ok (.ifCond .ne 43, 3) := by decide +kernel
theorem dX9_settles_17 : decode cX9_settles 17 = .ok (.aload_n 0, 1) := by decide +kernel
theorem dX9_settles_18 : decode cX9_settles 18 = .ok (.invokevirtual 103, 3) := by decide +kernel
theorem dX9_settles_21 : decode cX9_settles 21 = .ok (.invokestatic 110, 3) := by decide +kernel
theorem dX9_settles_24 : decode cX9_settles 24 = .ok (.iload_n 1, 1) := by decide +kernel
theorem dX9_settles_25 : decode cX9_settles 25 = .ok (.if_icmp .lt 32, 3) := by decide +kernel
theorem dX9_settles_28 : decode cX9_settles 28 = .ok (.aload_n 0, 1) := by decide +kernel
theorem dX9_settles_29 : decode cX9_settles 29 = .ok (.dup, 1) := by decide +kernel
theorem dX9_settles_30 : decode cX9_settles 30 = .ok (.getfield 100, 3) := by decide +kernel
theorem dX9_settles_33 : decode cX9_settles 33 = .ok (.iconst 1, 1) := by decide +kernel
theorem dX9_settles_34 : decode cX9_settles 34 = .ok (.isub, 1) := by decide +kernel
theorem dX9_settles_35 : decode cX9_settles 35 = .ok (.putfield 100, 3) := by decide +kernel
theorem dX9_settles_38 : decode cX9_settles 38 = .ok (.aload_n 0, 1) := by decide +kernel
theorem dX9_settles_39 : decode cX9_settles 39 = .ok (.aload_n 0, 1) := by decide +kernel
theorem dX9_settles_40 : decode cX9_settles 40 = .ok (.getfield 39, 3) := by decide +kernel
theorem dX9_settles_43 : decode cX9_settles 43 = .ok (.aload_n 0, 1) := by decide +kernel
theorem dX9_settles_44 : decode cX9_settles 44 = .ok (.getfield 100, 3) := by decide +kernel
theorem dX9_settles_47 : decode cX9_settles 47 = .ok (.iaload, 1) := by decide +kernel
theorem dX9_settles_48 : decode cX9_settles 48 = .ok (.invokestatic 113, 3) := by decide +kernel
theorem dX9_settles_51 : decode cX9_settles 51 = .ok (.invokevirtual 117, 3) := by decide +kernel
theorem dX9_settles_54 : decode cX9_settles 54 = .ok (.goto (-54), 3) := by decide +kernel
theorem dX9_settles_57 : decode cX9_settles 57 = .ok (.return_, 1) := by decide +kernel
theorem dX9_isWhole_0 : decode cX9_isWhole 0 = .ok (.aload_n 0, 1) := by decide +kernel
theorem dX9_isWhole_1 : decode cX9_isWhole 1 = .ok (.invokevirtual 103, 3) := by decide +kernel
theorem dX9_isWhole_4 : decode cX9_isWhole 4 = .ok (.bipush 117, 2) := by decide +kernel
theorem dX9_isWhole_6 : decode cX9_isWhole 6 = .ok (.if_icmp .ne 25, 3) := by decide +kernel
theorem dX9_isWhole_9 : decode cX9_isWhole 9 = .ok (.aload_n 0, 1) := by decide +kernel
theorem dX9_isWhole_10 : decode cX9_isWhole 10 = .ok (.dup, 1) := by decide +kernel
theorem dX9_isWhole_11 : decode cX9_isWhole 11 = .ok (.getfield 100, 3) := by decide +kernel
theorem dX9_isWhole_14 : decode cX9_isWhole 14 = .ok (.iconst 1, 1) := by decide +kernel
theorem dX9_isWhole_15 : decode cX9_isWhole 15 = .ok (.isub, 1) := by decide +kernel
theorem dX9_isWhole_16 : decode cX9_isWhole 16 = .ok (.putfield 100, 3) := by decide +kernel
theorem dX9_isWhole_19 : decode cX9_isWhole 19 = .ok (.aload_n 0, 1) := by decide +kernel
theorem dX9_isWhole_20 : decode cX9_isWhole 20 = .ok (.bipush 117, 2) := by decide +kernel
theorem dX9_isWhole_22 : decode cX9_isWhole 22 = .ok (.invokestatic 113, 3) := by decide +kernel
theorem dX9_isWhole_25 : decode cX9_isWhole 25 = .ok (.invokevirtual 117, 3) := by decide +kernel
theorem dX9_isWhole_28 : decode cX9_isWhole 28 = .ok (.goto (-28), 3) := by decide +kernel
theorem dX9_isWhole_31 : decode cX9_isWhole 31 = .ok (.return_, 1) := by decide +kernel
theorem dX9_innermost_0 : decode cX9_innermost 0 = .ok (.aload_n 0, 1) := by decide +kernel
theorem dX9_innermost_1 : decode cX9_innermost 1 = .ok (.getfield 100, 3) := by decide +kernel
theorem dX9_innermost_4 : decode cX9_innermost 4 = .ok (.iconst 1, 1) := by decide +kernel
theorem dX9_innermost_5 : decode cX9_innermost 5 = .ok (.isub, 1) := by decide +kernel
theorem dX9_innermost_6 : decode cX9_innermost 6 = .ok (.istore_n 1, 1) := by decide +kernel
theorem dX9_innermost_7 : decode cX9_innermost 7 = .ok (.iload_n 1, 1) := by decide +kernel
theorem dX9_innermost_8 : decode cX9_innermost 8 = .ok (.ifCond .lt 28, 3) := by decide +kernel
theorem dX9_innermost_11 : decode cX9_innermost 11 = .ok (.aload_n 0, 1) := by decide +kernel
theorem dX9_innermost_12 : decode cX9_innermost 12 = .ok (.getfield 39, 3) := by decide +kernel
theorem dX9_innermost_15 : decode cX9_innermost 15 = .ok (.iload_n 1, 1) := by decide +kernel
theorem dX9_innermost_16 : decode cX9_innermost 16 = .ok (.iaload, 1) := by decide +kernel
theorem dX9_innermost_17 : decode cX9_innermost 17 = .ok (.invokestatic 106, 3) := by decide +kernel
theorem dX9_innermost_20 : decode cX9_innermost 20 = .ok (.ifCond .eq 10, 3) := by decide +kernel
theorem dX9_innermost_23 : decode cX9_innermost 23 = .ok (.aload_n 0, 1) := by decide +kernel
theorem dX9_innermost_24 : decode cX9_innermost 24 = .ok (.getfield 39, 3) := by decide +kernel
theorem dX9_innermost_27 : decode cX9_innermost 27 = .ok (.iload_n 1, 1) := by decide +kernel
theorem dX9_innermost_28 : decode cX9_innermost 28 = .ok (.iaload, 1) := by decide +kernel
theorem dX9_innermost_29 : decode cX9_innermost 29 = .ok (.ireturn, 1) := by decide +kernel
theorem dX9_innermost_30 : decode cX9_innermost 30 = .ok (.iinc 1 (-1), 3) := by decide +kernel
theorem dX9_innermost_33 : decode cX9_innermost 33 = .ok (.goto (-26), 3) := by decide +kernel
theorem dX9_innermost_36 : decode cX9_innermost 36 = .ok (.iconst 0, 1) := by decide +kernel
theorem dX9_innermost_37 : decode cX9_innermost 37 = .ok (.ireturn, 1) := by decide +kernel
theorem dX9_variable_0 : decode cX9_variable 0 = .ok (.iload_n 0, 1) := by decide +kernel
theorem dX9_variable_1 : decode cX9_variable 1 = .ok (.tableswitch 131 97 119 #[117, 131, 131, 111, 131, 113, 131, 131, 131, 131, 131, 109, 131, 125, 131, 107, 131, 128, 131, 119, 131, 122, 115], 107) := by decide +kernel
theorem dX9_variable_108 : decode cX9_variable 108 = .ok (.iconst 0, 1) := by decide +kernel
theorem dX9_variable_109 : decode cX9_variable 109 = .ok (.ireturn, 1) := by decide +kernel
theorem dX9_variable_110 : decode cX9_variable 110 = .ok (.iconst 1, 1) := by decide +kernel
theorem dX9_variable_111 : decode cX9_variable 111 = .ok (.ireturn, 1) := by decide +kernel
theorem dX9_variable_112 : decode cX9_variable 112 = .ok (.iconst 2, 1) := by decide +kernel
theorem dX9_variable_113 : decode cX9_variable 113 = .ok (.ireturn, 1) := by decide +kernel
theorem dX9_variable_114 : decode cX9_variable 114 = .ok (.iconst 3, 1) := by decide +kernel
theorem dX9_variable_115 : decode cX9_variable 115 = .ok (.ireturn, 1) := by decide +kernel
theorem dX9_variable_116 : decode cX9_variable 116 = .ok (.iconst 4, 1) := by decide +kernel
theorem dX9_variable_117 : decode cX9_variable 117 = .ok (.ireturn, 1) := by decide +kernel
theorem dX9_variable_118 : decode cX9_variable 118 = .ok (.iconst 5, 1) := by decide +kernel
theorem dX9_variable_119 : decode cX9_variable 119 = .ok (.ireturn, 1) := by decide +kernel
theorem dX9_variable_120 : decode cX9_variable 120 = .ok (.bipush 6, 2) := by decide +kernel
theorem dX9_variable_122 : decode cX9_variable 122 = .ok (.ireturn, 1) := by decide +kernel
theorem dX9_variable_123 : decode cX9_variable 123 = .ok (.bipush 7, 2) := by decide +kernel
theorem dX9_variable_125 : decode cX9_variable 125 = .ok (.ireturn, 1) := by decide +kernel
theorem dX9_variable_126 : decode cX9_variable 126 = .ok (.bipush 8, 2) := by decide +kernel
theorem dX9_variable_128 : decode cX9_variable 128 = .ok (.ireturn, 1) := by decide +kernel
theorem dX9_variable_129 : decode cX9_variable 129 = .ok (.bipush 9, 2) := by decide +kernel
theorem dX9_variable_131 : decode cX9_variable 131 = .ok (.ireturn, 1) := by decide +kernel
theorem dX9_variable_132 : decode cX9_variable 132 = .ok (.iconst (-1), 1) := by decide +kernel
theorem dX9_variable_133 : decode cX9_variable 133 = .ok (.ireturn, 1) := by decide +kernel
theorem dX9_begins_0 : decode cX9_begins 0 = .ok (.aload_n 0, 1) := by decide +kernel
theorem dX9_begins_1 : decode cX9_begins 1 = .ok (.aload_n 0, 1) := by decide +kernel
theorem dX9_begins_2 : decode cX9_begins 2 = .ok (.getfield 121, 3) := by decide +kernel
theorem dX9_begins_5 : decode cX9_begins 5 = .ok (.invokevirtual 71, 3) := by decide +kernel
theorem dX9_begins_8 : decode cX9_begins 8 = .ok (.istore_n 2, 1) := by decide +kernel
theorem dX9_begins_9 : decode cX9_begins 9 = .ok (.aload_n 0, 1) := by decide +kernel
theorem dX9_begins_10 : decode cX9_begins 10 = .ok (.aload_n 0, 1) := by decide +kernel
theorem dX9_begins_11 : decode cX9_begins 11 = .ok (.getfield 121, 3) := by decide +kernel
theorem dX9_begins_14 : decode cX9_begins 14 = .ok (.invokevirtual 124, 3) := by decide +kernel
theorem dX9_begins_17 : decode cX9_begins 17 = .ok (.ifCond .eq 79, 3) := by decide +kernel
theorem dX9_begins_20 : decode cX9_begins 20 = .ok (.aload_n 0, 1) := by decide +kernel
theorem dX9_begins_21 : decode cX9_begins 21 = .ok (.getfield 121, 3) := by decide +kernel
theorem dX9_begins_24 : decode cX9_begins 24 = .ok (.istore_n 3, 1) := by decide +kernel
theorem dX9_begins_25 : decode cX9_begins 25 = .ok (.lconst 0, 1) := by decide +kernel
theorem dX9_begins_26 : decode cX9_begins 26 = .ok (.lstore 4, 2) := by decide +kernel
theorem dX9_begins_28 : decode cX9_begins 28 = .ok (.aload_n 0, 1) := by decide +kernel
theorem dX9_begins_29 : decode cX9_begins 29 = .ok (.aload_n 0, 1) := by decide +kernel
theorem dX9_begins_30 : decode cX9_begins 30 = .ok (.getfield 121, 3) := by decide +kernel
theorem dX9_begins_33 : decode cX9_begins 33 = .ok (.invokevirtual 124, 3) := by decide +kernel
theorem dX9_begins_36 : decode cX9_begins 36 = .ok (.ifCond .eq 52, 3) := by decide +kernel
theorem dX9_begins_39 : decode cX9_begins 39 = .ok (.aload_n 0, 1) := by decide +kernel
theorem dX9_begins_40 : decode cX9_begins 40 = .ok (.getfield 121, 3) := by decide +kernel
theorem dX9_begins_43 : decode cX9_begins 43 = .ok (.iload_n 3, 1) := by decide +kernel
theorem dX9_begins_44 : decode cX9_begins 44 = .ok (.isub, 1) := by decide +kernel
theorem dX9_begins_45 : decode cX9_begins 45 = .ok (.bipush 6, 2) := by decide +kernel
theorem dX9_begins_47 : decode cX9_begins 47 = .ok (.if_icmp .ne 5, 3) := by decide +kernel
theorem dX9_begins_50 : decode cX9_begins 50 = .ok (.iconst (-1), 1) := by decide +kernel
theorem dX9_begins_51 : decode cX9_begins 51 = .ok (.ireturn, 1) := by decide +kernel
theorem dX9_begins_52 : decode cX9_begins 52 = .ok (.ldc2_w 127, 3) := by decide +kernel
theorem dX9_begins_55 : decode cX9_begins 55 = .ok (.lload 4, 2) := by decide +kernel
theorem dX9_begins_57 : decode cX9_begins 57 = .ok (.lmul, 1) := by decide +kernel
theorem dX9_begins_58 : decode cX9_begins 58 = .ok (.aload_n 0, 1) := by decide +kernel
theorem dX9_begins_59 : decode cX9_begins 59 = .ok (.getfield 30, 3) := by decide +kernel
theorem dX9_begins_62 : decode cX9_begins 62 = .ok (.aload_n 0, 1) := by decide +kernel
theorem dX9_begins_63 : decode cX9_begins 63 = .ok (.getfield 121, 3) := by decide +kernel
theorem dX9_begins_66 : decode cX9_begins 66 = .ok (.iaload, 1) := by decide +kernel
theorem dX9_begins_67 : decode cX9_begins 67 = .ok (.i2l, 1) := by decide +kernel
theorem dX9_begins_68 : decode cX9_begins 68 = .ok (.ladd, 1) := by decide +kernel
theorem dX9_begins_69 : decode cX9_begins 69 = .ok (.ldc2_w 75, 3) := by decide +kernel
theorem dX9_begins_72 : decode cX9_begins 72 = .ok (.lsub, 1) := by decide +kernel
theorem dX9_begins_73 : decode cX9_begins 73 = .ok (.lstore 4, 2) := by decide +kernel
theorem dX9_begins_75 : decode cX9_begins 75 = .ok (.aload_n 0, 1) := by decide +kernel
theorem dX9_begins_76 : decode cX9_begins 76 = .ok (.dup, 1) := by decide +kernel
theorem dX9_begins_77 : decode cX9_begins 77 = .ok (.getfield 121, 3) := by decide +kernel
theorem dX9_begins_80 : decode cX9_begins 80 = .ok (.iconst 1, 1) := by decide +kernel
theorem dX9_begins_81 : decode cX9_begins 81 = .ok (.iadd, 1) := by decide +kernel
theorem dX9_begins_82 : decode cX9_begins 82 = .ok (.putfield 121, 3) := by decide +kernel
theorem dX9_begins_85 : decode cX9_begins 85 = .ok (.goto (-57), 3) := by decide +kernel
theorem dX9_begins_88 : decode cX9_begins 88 = .ok (.aload_n 0, 1) := by decide +kernel
theorem dX9_begins_89 : decode cX9_begins 89 = .ok (.lload 4, 2) := by decide +kernel
theorem dX9_begins_91 : decode cX9_begins 91 = .ok (.invokevirtual 117, 3) := by decide +kernel
theorem dX9_begins_94 : decode cX9_begins 94 = .ok (.iconst 1, 1) := by decide +kernel
theorem dX9_begins_95 : decode cX9_begins 95 = .ok (.ireturn, 1) := by decide +kernel
theorem dX9_begins_96 : decode cX9_begins 96 = .ok (.iload_n 2, 1) := by decide +kernel
theorem dX9_begins_97 : decode cX9_begins 97 = .ok (.bipush 45, 2) := by decide +kernel
theorem dX9_begins_99 : decode cX9_begins 99 = .ok (.if_icmp .eq 9, 3) := by decide +kernel
theorem dX9_begins_102 : decode cX9_begins 102 = .ok (.iload_n 2, 1) := by decide +kernel
theorem dX9_begins_103 : decode cX9_begins 103 = .ok (.bipush 40, 2) := by decide +kernel
theorem dX9_begins_105 : decode cX9_begins 105 = .ok (.if_icmp .ne 47, 3) := by decide +kernel
theorem dX9_begins_108 : decode cX9_begins 108 = .ok (.aload_n 0, 1) := by decide +kernel
theorem dX9_begins_109 : decode cX9_begins 109 = .ok (.getfield 39, 3) := by decide +kernel
theorem dX9_begins_112 : decode cX9_begins 112 = .ok (.aload_n 0, 1) := by decide +kernel
theorem dX9_begins_113 : decode cX9_begins 113 = .ok (.getfield 100, 3) := by decide +kernel
theorem dX9_begins_116 : decode cX9_begins 116 = .ok (.iload_n 2, 1) := by decide +kernel
theorem dX9_begins_117 : decode cX9_begins 117 = .ok (.bipush 45, 2) := by decide +kernel
theorem dX9_begins_119 : decode cX9_begins 119 = .ok (.if_icmp .ne 8, 3) := by decide +kernel
theorem dX9_begins_122 : decode cX9_begins 122 = .ok (.bipush 117, 2) := by decide +kernel
theorem dX9_begins_124 : decode cX9_begins 124 = .ok (.goto 5, 3) := by decide +kernel
theorem dX9_begins_127 : decode cX9_begins 127 = .ok (.bipush 40, 2) := by decide +kernel
theorem dX9_begins_129 : decode cX9_begins 129 = .ok (.iastore, 1) := by decide +kernel
theorem dX9_begins_130 : decode cX9_begins 130 = .ok (.aload_n 0, 1) := by decide +kernel
theorem dX9_begins_131 : decode cX9_begins 131 = .ok (.dup, 1) := by decide +kernel
theorem dX9_begins_132 : decode cX9_begins 132 = .ok (.getfield 100, 3) := by decide +kernel
theorem dX9_begins_135 : decode cX9_begins 135 = .ok (.iconst 1, 1) := by decide +kernel
theorem dX9_begins_136 : decode cX9_begins 136 = .ok (.iadd, 1) := by decide +kernel
theorem dX9_begins_137 : decode cX9_begins 137 = .ok (.putfield 100, 3) := by decide +kernel
theorem dX9_begins_140 : decode cX9_begins 140 = .ok (.aload_n 0, 1) := by decide +kernel
theorem dX9_begins_141 : decode cX9_begins 141 = .ok (.dup, 1) := by decide +kernel
theorem dX9_begins_142 : decode cX9_begins 142 = .ok (.getfield 121, 3) := by decide +kernel
theorem dX9_begins_145 : decode cX9_begins 145 = .ok (.iconst 1, 1) := by decide +kernel
theorem dX9_begins_146 : decode cX9_begins 146 = .ok (.iadd, 1) := by decide +kernel
theorem dX9_begins_147 : decode cX9_begins 147 = .ok (.putfield 121, 3) := by decide +kernel
theorem dX9_begins_150 : decode cX9_begins 150 = .ok (.iconst 0, 1) := by decide +kernel
theorem dX9_begins_151 : decode cX9_begins 151 = .ok (.ireturn, 1) := by decide +kernel
theorem dX9_begins_152 : decode cX9_begins 152 = .ok (.iload_n 2, 1) := by decide +kernel
theorem dX9_begins_153 : decode cX9_begins 153 = .ok (.bipush 77, 2) := by decide +kernel
theorem dX9_begins_155 : decode cX9_begins 155 = .ok (.if_icmp .eq 9, 3) := by decide +kernel
theorem dX9_begins_158 : decode cX9_begins 158 = .ok (.iload_n 2, 1) := by decide +kernel
theorem dX9_begins_159 : decode cX9_begins 159 = .ok (.bipush 109, 2) := by decide +kernel
theorem dX9_begins_161 : decode cX9_begins 161 = .ok (.if_icmp .ne 60, 3) := by decide +kernel
theorem dX9_begins_164 : decode cX9_begins 164 = .ok (.aload_n 0, 1) := by decide +kernel
theorem dX9_begins_165 : decode cX9_begins 165 = .ok (.dup, 1) := by decide +kernel
theorem dX9_begins_166 : decode cX9_begins 166 = .ok (.getfield 121, 3) := by decide +kernel
theorem dX9_begins_169 : decode cX9_begins 169 = .ok (.iconst 1, 1) := by decide +kernel
theorem dX9_begins_170 : decode cX9_begins 170 = .ok (.iadd, 1) := by decide +kernel
theorem dX9_begins_171 : decode cX9_begins 171 = .ok (.putfield 121, 3) := by decide +kernel
theorem dX9_begins_174 : decode cX9_begins 174 = .ok (.aload_n 0, 1) := by decide +kernel
theorem dX9_begins_175 : decode cX9_begins 175 = .ok (.aload_n 0, 1) := by decide +kernel
theorem dX9_begins_176 : decode cX9_begins 176 = .ok (.getfield 121, 3) := by decide +kernel
theorem dX9_begins_179 : decode cX9_begins 179 = .ok (.invokevirtual 71, 3) := by decide +kernel
theorem dX9_begins_182 : decode cX9_begins 182 = .ok (.bipush 40, 2) := by decide +kernel
theorem dX9_begins_184 : decode cX9_begins 184 = .ok (.if_icmp .eq 5, 3) := by decide +kernel
theorem dX9_begins_187 : decode cX9_begins 187 = .ok (.iconst (-1), 1) := by decide +kernel
theorem dX9_begins_188 : decode cX9_begins 188 = .ok (.ireturn, 1) := by decide +kernel
theorem dX9_begins_189 : decode cX9_begins 189 = .ok (.aload_n 0, 1) := by decide +kernel
theorem dX9_begins_190 : decode cX9_begins 190 = .ok (.getfield 39, 3) := by decide +kernel
theorem dX9_begins_193 : decode cX9_begins 193 = .ok (.aload_n 0, 1) := by decide +kernel
theorem dX9_begins_194 : decode cX9_begins 194 = .ok (.getfield 100, 3) := by decide +kernel
theorem dX9_begins_197 : decode cX9_begins 197 = .ok (.iload_n 2, 1) := by decide +kernel
theorem dX9_begins_198 : decode cX9_begins 198 = .ok (.iastore, 1) := by decide +kernel
theorem dX9_begins_199 : decode cX9_begins 199 = .ok (.aload_n 0, 1) := by decide +kernel
theorem dX9_begins_200 : decode cX9_begins 200 = .ok (.dup, 1) := by decide +kernel
theorem dX9_begins_201 : decode cX9_begins 201 = .ok (.getfield 100, 3) := by decide +kernel
theorem dX9_begins_204 : decode cX9_begins 204 = .ok (.iconst 1, 1) := by decide +kernel
theorem dX9_begins_205 : decode cX9_begins 205 = .ok (.iadd, 1) := by decide +kernel
theorem dX9_begins_206 : decode cX9_begins 206 = .ok (.putfield 100, 3) := by decide +kernel
theorem dX9_begins_209 : decode cX9_begins 209 = .ok (.aload_n 0, 1) := by decide +kernel
theorem dX9_begins_210 : decode cX9_begins 210 = .ok (.dup, 1) := by decide +kernel
theorem dX9_begins_211 : decode cX9_begins 211 = .ok (.getfield 121, 3) := by decide +kernel
theorem dX9_begins_214 : decode cX9_begins 214 = .ok (.iconst 1, 1) := by decide +kernel
theorem dX9_begins_215 : decode cX9_begins 215 = .ok (.iadd, 1) := by decide +kernel
theorem dX9_begins_216 : decode cX9_begins 216 = .ok (.putfield 121, 3) := by decide +kernel
theorem dX9_begins_219 : decode cX9_begins 219 = .ok (.iconst 0, 1) := by decide +kernel
theorem dX9_begins_220 : decode cX9_begins 220 = .ok (.ireturn, 1) := by decide +kernel
theorem dX9_begins_221 : decode cX9_begins 221 = .ok (.iload_n 2, 1) := by decide +kernel
theorem dX9_begins_222 : decode cX9_begins 222 = .ok (.invokestatic 129, 3) := by decide +kernel
theorem dX9_begins_225 : decode cX9_begins 225 = .ok (.istore_n 3, 1) := by decide +kernel
theorem dX9_begins_226 : decode cX9_begins 226 = .ok (.iload_n 3, 1) := by decide +kernel
theorem dX9_begins_227 : decode cX9_begins 227 = .ok (.ifCond .lt 13, 3) := by decide +kernel
theorem dX9_begins_230 : decode cX9_begins 230 = .ok (.iload_n 3, 1) := by decide +kernel
theorem dX9_begins_231 : decode cX9_begins 231 = .ok (.bipush 9, 2) := by decide +kernel
theorem dX9_begins_233 : decode cX9_begins 233 = .ok (.if_icmp .ne 9, 3) := by decide +kernel
theorem dX9_begins_236 : decode cX9_begins 236 = .ok (.iload_n 1, 1) := by decide +kernel
theorem dX9_begins_237 : decode cX9_begins 237 = .ok (.ifCond .ne 5, 3) := by decide +kernel
theorem dX9_begins_240 : decode cX9_begins 240 = .ok (.iconst (-1), 1) := by decide +kernel
theorem dX9_begins_241 : decode cX9_begins 241 = .ok (.ireturn, 1) := by decide +kernel
theorem dX9_begins_242 : decode cX9_begins 242 = .ok (.aload_n 0, 1) := by decide +kernel
theorem dX9_begins_243 : decode cX9_begins 243 = .ok (.ldc2_w 132, 3) := by decide +kernel
theorem dX9_begins_246 : decode cX9_begins 246 = .ok (.iload_n 3, 1) := by decide +kernel
theorem dX9_begins_247 : decode cX9_begins 247 = .ok (.i2l, 1) := by decide +kernel
theorem dX9_begins_248 : decode cX9_begins 248 = .ok (.lsub, 1) := by decide +kernel
theorem dX9_begins_249 : decode cX9_begins 249 = .ok (.invokevirtual 117, 3) := by decide +kernel
theorem dX9_begins_252 : decode cX9_begins 252 = .ok (.aload_n 0, 1) := by decide +kernel
theorem dX9_begins_253 : decode cX9_begins 253 = .ok (.dup, 1) := by decide +kernel
theorem dX9_begins_254 : decode cX9_begins 254 = .ok (.getfield 121, 3) := by decide +kernel
theorem dX9_begins_257 : decode cX9_begins 257 = .ok (.iconst 1, 1) := by decide +kernel
theorem dX9_begins_258 : decode cX9_begins 258 = .ok (.iadd, 1) := by decide +kernel
theorem dX9_begins_259 : decode cX9_begins 259 = .ok (.putfield 121, 3) := by decide +kernel
theorem dX9_begins_262 : decode cX9_begins 262 = .ok (.iconst 1, 1) := by decide +kernel
theorem dX9_begins_263 : decode cX9_begins 263 = .ok (.ireturn, 1) := by decide +kernel
theorem dX9_goesOn_0 : decode cX9_goesOn 0 = .ok (.aload_n 0, 1) := by decide +kernel
theorem dX9_goesOn_1 : decode cX9_goesOn 1 = .ok (.aload_n 0, 1) := by decide +kernel
theorem dX9_goesOn_2 : decode cX9_goesOn 2 = .ok (.getfield 121, 3) := by decide +kernel
theorem dX9_goesOn_5 : decode cX9_goesOn 5 = .ok (.invokevirtual 71, 3) := by decide +kernel
theorem dX9_goesOn_8 : decode cX9_goesOn 8 = .ok (.istore_n 1, 1) := by decide +kernel
theorem dX9_goesOn_9 : decode cX9_goesOn 9 = .ok (.aload_n 0, 1) := by decide +kernel
theorem dX9_goesOn_10 : decode cX9_goesOn 10 = .ok (.invokevirtual 134, 3) := by decide +kernel
theorem dX9_goesOn_13 : decode cX9_goesOn 13 = .ok (.istore_n 2, 1) := by decide +kernel
theorem dX9_goesOn_14 : decode cX9_goesOn 14 = .ok (.iload_n 1, 1) := by decide +kernel
theorem dX9_goesOn_15 : decode cX9_goesOn 15 = .ok (.bipush 43, 2) := by decide +kernel
theorem dX9_goesOn_17 : decode cX9_goesOn 17 = .ok (.if_icmp .eq 21, 3) := by decide +kernel
theorem dX9_goesOn_20 : decode cX9_goesOn 20 = .ok (.iload_n 1, 1) := by decide +kernel
theorem dX9_goesOn_21 : decode cX9_goesOn 21 = .ok (.bipush 45, 2) := by decide +kernel
theorem dX9_goesOn_23 : decode cX9_goesOn 23 = .ok (.if_icmp .eq 15, 3) := by decide +kernel
theorem dX9_goesOn_26 : decode cX9_goesOn 26 = .ok (.iload_n 1, 1) := by decide +kernel
theorem dX9_goesOn_27 : decode cX9_goesOn 27 = .ok (.bipush 42, 2) := by decide +kernel
theorem dX9_goesOn_29 : decode cX9_goesOn 29 = .ok (.if_icmp .eq 9, 3) := by decide +kernel
theorem dX9_goesOn_32 : decode cX9_goesOn 32 = .ok (.iload_n 1, 1) := by decide +kernel
theorem dX9_goesOn_33 : decode cX9_goesOn 33 = .ok (.bipush 47, 2) := by decide +kernel
theorem dX9_goesOn_35 : decode cX9_goesOn 35 = .ok (.if_icmp .ne 43, 3) := by decide +kernel
theorem dX9_goesOn_38 : decode cX9_goesOn 38 = .ok (.aload_n 0, 1) := by decide +kernel
theorem dX9_goesOn_39 : decode cX9_goesOn 39 = .ok (.iload_n 1, 1) := by decide +kernel
theorem dX9_goesOn_40 : decode cX9_goesOn 40 = .ok (.invokestatic 110, 3) := by decide +kernel
theorem dX9_goesOn_43 : decode cX9_goesOn 43 = .ok (.invokevirtual 137, 3) := by decide +kernel
theorem dX9_goesOn_46 : decode cX9_goesOn 46 = .ok (.aload_n 0, 1) := by decide +kernel
theorem dX9_goesOn_47 : decode cX9_goesOn 47 = .ok (.getfield 39, 3) := by decide +kernel
theorem dX9_goesOn_50 : decode cX9_goesOn 50 = .ok (.aload_n 0, 1) := by decide +kernel
theorem dX9_goesOn_51 : decode cX9_goesOn 51 = .ok (.getfield 100, 3) := by decide +kernel
theorem dX9_goesOn_54 : decode cX9_goesOn 54 = .ok (.iload_n 1, 1) := by decide +kernel
theorem dX9_goesOn_55 : decode cX9_goesOn 55 = .ok (.iastore, 1) := by decide +kernel
theorem dX9_goesOn_56 : decode cX9_goesOn 56 = .ok (.aload_n 0, 1) := by decide +kernel
theorem dX9_goesOn_57 : decode cX9_goesOn 57 = .ok (.dup, 1) := by decide +kernel
theorem dX9_goesOn_58 : decode cX9_goesOn 58 = .ok (.getfield 100, 3) := by decide +kernel
theorem dX9_goesOn_61 : decode cX9_goesOn 61 = .ok (.iconst 1, 1) := by decide +kernel
theorem dX9_goesOn_62 : decode cX9_goesOn 62 = .ok (.iadd, 1) := by decide +kernel
theorem dX9_goesOn_63 : decode cX9_goesOn 63 = .ok (.putfield 100, 3) := by decide +kernel
theorem dX9_goesOn_66 : decode cX9_goesOn 66 = .ok (.aload_n 0, 1) := by decide +kernel
theorem dX9_goesOn_67 : decode cX9_goesOn 67 = .ok (.dup, 1) := by decide +kernel
theorem dX9_goesOn_68 : decode cX9_goesOn 68 = .ok (.getfield 121, 3) := by decide +kernel
theorem dX9_goesOn_71 : decode cX9_goesOn 71 = .ok (.iconst 1, 1) := by decide +kernel
theorem dX9_goesOn_72 : decode cX9_goesOn 72 = .ok (.iadd, 1) := by decide +kernel
theorem dX9_goesOn_73 : decode cX9_goesOn 73 = .ok (.putfield 121, 3) := by decide +kernel
theorem dX9_goesOn_76 : decode cX9_goesOn 76 = .ok (.iconst 1, 1) := by decide +kernel
theorem dX9_goesOn_77 : decode cX9_goesOn 77 = .ok (.ireturn, 1) := by decide +kernel
theorem dX9_goesOn_78 : decode cX9_goesOn 78 = .ok (.iload_n 2, 1) := by decide +kernel
theorem dX9_goesOn_79 : decode cX9_goesOn 79 = .ok (.ifCond .ne 5, 3) := by decide +kernel
theorem dX9_goesOn_82 : decode cX9_goesOn 82 = .ok (.iconst 0, 1) := by decide +kernel
theorem dX9_goesOn_83 : decode cX9_goesOn 83 = .ok (.ireturn, 1) := by decide +kernel
theorem dX9_goesOn_84 : decode cX9_goesOn 84 = .ok (.iload_n 1, 1) := by decide +kernel
theorem dX9_goesOn_85 : decode cX9_goesOn 85 = .ok (.bipush 44, 2) := by decide +kernel
theorem dX9_goesOn_87 : decode cX9_goesOn 87 = .ok (.if_icmp .ne 56, 3) := by decide +kernel
theorem dX9_goesOn_90 : decode cX9_goesOn 90 = .ok (.iload_n 2, 1) := by decide +kernel
theorem dX9_goesOn_91 : decode cX9_goesOn 91 = .ok (.bipush 77, 2) := by decide +kernel
theorem dX9_goesOn_93 : decode cX9_goesOn 93 = .ok (.if_icmp .eq 9, 3) := by decide +kernel
theorem dX9_goesOn_96 : decode cX9_goesOn 96 = .ok (.iload_n 2, 1) := by decide +kernel
theorem dX9_goesOn_97 : decode cX9_goesOn 97 = .ok (.bipush 109, 2) := by decide +kernel
theorem dX9_goesOn_99 : decode cX9_goesOn 99 = .ok (.if_icmp .ne 44, 3) := by decide +kernel
theorem dX9_goesOn_102 : decode cX9_goesOn 102 = .ok (.aload_n 0, 1) := by decide +kernel
theorem dX9_goesOn_103 : decode cX9_goesOn 103 = .ok (.iconst 1, 1) := by decide +kernel
theorem dX9_goesOn_104 : decode cX9_goesOn 104 = .ok (.invokevirtual 137, 3) := by decide +kernel
theorem dX9_goesOn_107 : decode cX9_goesOn 107 = .ok (.aload_n 0, 1) := by decide +kernel
theorem dX9_goesOn_108 : decode cX9_goesOn 108 = .ok (.getfield 39, 3) := by decide +kernel
theorem dX9_goesOn_111 : decode cX9_goesOn 111 = .ok (.aload_n 0, 1) := by decide +kernel
theorem dX9_goesOn_112 : decode cX9_goesOn 112 = .ok (.getfield 100, 3) := by decide +kernel
theorem dX9_goesOn_115 : decode cX9_goesOn 115 = .ok (.iconst 1, 1) := by decide +kernel
theorem dX9_goesOn_116 : decode cX9_goesOn 116 = .ok (.isub, 1) := by decide +kernel
theorem dX9_goesOn_117 : decode cX9_goesOn 117 = .ok (.iload_n 2, 1) := by decide +kernel
theorem dX9_goesOn_118 : decode cX9_goesOn 118 = .ok (.bipush 77, 2) := by decide +kernel
theorem dX9_goesOn_120 : decode cX9_goesOn 120 = .ok (.if_icmp .ne 8, 3) := by decide +kernel
theorem dX9_goesOn_123 : decode cX9_goesOn 123 = .ok (.bipush 88, 2) := by decide +kernel
theorem dX9_goesOn_125 : decode cX9_goesOn 125 = .ok (.goto 5, 3) := by decide +kernel
theorem dX9_goesOn_128 : decode cX9_goesOn 128 = .ok (.bipush 120, 2) := by decide +kernel
theorem dX9_goesOn_130 : decode cX9_goesOn 130 = .ok (.iastore, 1) := by decide +kernel
theorem dX9_goesOn_131 : decode cX9_goesOn 131 = .ok (.aload_n 0, 1) := by decide +kernel
theorem dX9_goesOn_132 : decode cX9_goesOn 132 = .ok (.dup, 1) := by decide +kernel
theorem dX9_goesOn_133 : decode cX9_goesOn 133 = .ok (.getfield 121, 3) := by decide +kernel
theorem dX9_goesOn_136 : decode cX9_goesOn 136 = .ok (.iconst 1, 1) := by decide +kernel
theorem dX9_goesOn_137 : decode cX9_goesOn 137 = .ok (.iadd, 1) := by decide +kernel
theorem dX9_goesOn_138 : decode cX9_goesOn 138 = .ok (.putfield 121, 3) := by decide +kernel
theorem dX9_goesOn_141 : decode cX9_goesOn 141 = .ok (.iconst 1, 1) := by decide +kernel
theorem dX9_goesOn_142 : decode cX9_goesOn 142 = .ok (.ireturn, 1) := by decide +kernel
theorem dX9_goesOn_143 : decode cX9_goesOn 143 = .ok (.iload_n 1, 1) := by decide +kernel
theorem dX9_goesOn_144 : decode cX9_goesOn 144 = .ok (.bipush 41, 2) := by decide +kernel
theorem dX9_goesOn_146 : decode cX9_goesOn 146 = .ok (.if_icmp .ne 56, 3) := by decide +kernel
theorem dX9_goesOn_149 : decode cX9_goesOn 149 = .ok (.iload_n 2, 1) := by decide +kernel
theorem dX9_goesOn_150 : decode cX9_goesOn 150 = .ok (.bipush 77, 2) := by decide +kernel
theorem dX9_goesOn_152 : decode cX9_goesOn 152 = .ok (.if_icmp .eq 50, 3) := by decide +kernel
theorem dX9_goesOn_155 : decode cX9_goesOn 155 = .ok (.iload_n 2, 1) := by decide +kernel
theorem dX9_goesOn_156 : decode cX9_goesOn 156 = .ok (.bipush 109, 2) := by decide +kernel
theorem dX9_goesOn_158 : decode cX9_goesOn 158 = .ok (.if_icmp .eq 44, 3) := by decide +kernel
theorem dX9_goesOn_161 : decode cX9_goesOn 161 = .ok (.aload_n 0, 1) := by decide +kernel
theorem dX9_goesOn_162 : decode cX9_goesOn 162 = .ok (.iconst 1, 1) := by decide +kernel
theorem dX9_goesOn_163 : decode cX9_goesOn 163 = .ok (.invokevirtual 137, 3) := by decide +kernel
theorem dX9_goesOn_166 : decode cX9_goesOn 166 = .ok (.aload_n 0, 1) := by decide +kernel
theorem dX9_goesOn_167 : decode cX9_goesOn 167 = .ok (.dup, 1) := by decide +kernel
theorem dX9_goesOn_168 : decode cX9_goesOn 168 = .ok (.getfield 100, 3) := by decide +kernel
theorem dX9_goesOn_171 : decode cX9_goesOn 171 = .ok (.iconst 1, 1) := by decide +kernel
theorem dX9_goesOn_172 : decode cX9_goesOn 172 = .ok (.isub, 1) := by decide +kernel
theorem dX9_goesOn_173 : decode cX9_goesOn 173 = .ok (.putfield 100, 3) := by decide +kernel
theorem dX9_goesOn_176 : decode cX9_goesOn 176 = .ok (.iload_n 2, 1) := by decide +kernel
theorem dX9_goesOn_177 : decode cX9_goesOn 177 = .ok (.bipush 40, 2) := by decide +kernel
theorem dX9_goesOn_179 : decode cX9_goesOn 179 = .ok (.if_icmp .eq 11, 3) := by decide +kernel
theorem dX9_goesOn_182 : decode cX9_goesOn 182 = .ok (.aload_n 0, 1) := by decide +kernel
theorem dX9_goesOn_183 : decode cX9_goesOn 183 = .ok (.iload_n 2, 1) := by decide +kernel
theorem dX9_goesOn_184 : decode cX9_goesOn 184 = .ok (.invokestatic 113, 3) := by decide +kernel
theorem dX9_goesOn_187 : decode cX9_goesOn 187 = .ok (.invokevirtual 117, 3) := by decide +kernel
theorem dX9_goesOn_190 : decode cX9_goesOn 190 = .ok (.aload_n 0, 1) := by decide +kernel
theorem dX9_goesOn_191 : decode cX9_goesOn 191 = .ok (.dup, 1) := by decide +kernel
theorem dX9_goesOn_192 : decode cX9_goesOn 192 = .ok (.getfield 121, 3) := by decide +kernel
theorem dX9_goesOn_195 : decode cX9_goesOn 195 = .ok (.iconst 1, 1) := by decide +kernel
theorem dX9_goesOn_196 : decode cX9_goesOn 196 = .ok (.iadd, 1) := by decide +kernel
theorem dX9_goesOn_197 : decode cX9_goesOn 197 = .ok (.putfield 121, 3) := by decide +kernel
theorem dX9_goesOn_200 : decode cX9_goesOn 200 = .ok (.iconst 2, 1) := by decide +kernel
theorem dX9_goesOn_201 : decode cX9_goesOn 201 = .ok (.ireturn, 1) := by decide +kernel
theorem dX9_goesOn_202 : decode cX9_goesOn 202 = .ok (.iconst (-1), 1) := by decide +kernel
theorem dX9_goesOn_203 : decode cX9_goesOn 203 = .ok (.ireturn, 1) := by decide +kernel
theorem dX9_readsExpression_0 : decode cX9_readsExpression 0 = .ok (.aload_n 0, 1) := by decide +kernel
theorem dX9_readsExpression_1 : decode cX9_readsExpression 1 = .ok (.iconst 0, 1) := by decide +kernel
theorem dX9_readsExpression_2 : decode cX9_readsExpression 2 = .ok (.putfield 100, 3) := by decide +kernel
theorem dX9_readsExpression_5 : decode cX9_readsExpression 5 = .ok (.iconst 1, 1) := by decide +kernel
theorem dX9_readsExpression_6 : decode cX9_readsExpression 6 = .ok (.istore_n 2, 1) := by decide +kernel
theorem dX9_readsExpression_7 : decode cX9_readsExpression 7 = .ok (.iconst 1, 1) := by decide +kernel
theorem dX9_readsExpression_8 : decode cX9_readsExpression 8 = .ok (.istore_n 3, 1) := by decide +kernel
theorem dX9_readsExpression_9 : decode cX9_readsExpression 9 = .ok (.iload_n 3, 1) := by decide +kernel
theorem dX9_readsExpression_10 : decode cX9_readsExpression 10 = .ok (.ifCond .eq 99, 3) := by decide +kernel
theorem dX9_readsExpression_13 : decode cX9_readsExpression 13 = .ok (.iload_n 2, 1) := by decide +kernel
theorem dX9_readsExpression_14 : decode cX9_readsExpression 14 = .ok (.ifCond .eq 11, 3) := by decide +kernel
theorem dX9_readsExpression_17 : decode cX9_readsExpression 17 = .ok (.aload_n 0, 1) := by decide +kernel
theorem dX9_readsExpression_18 : decode cX9_readsExpression 18 = .ok (.iload_n 1, 1) := by decide +kernel
theorem dX9_readsExpression_19 : decode cX9_readsExpression 19 = .ok (.invokevirtual 140, 3) := by decide +kernel
theorem dX9_readsExpression_22 : decode cX9_readsExpression 22 = .ok (.goto 7, 3) := by decide +kernel
theorem dX9_readsExpression_25 : decode cX9_readsExpression 25 = .ok (.aload_n 0, 1) := by decide +kernel
theorem dX9_readsExpression_26 : decode cX9_readsExpression 26 = .ok (.invokevirtual 144, 3) := by decide +kernel
theorem dX9_readsExpression_29 : decode cX9_readsExpression 29 = .ok (.istore 4, 2) := by decide +kernel
theorem dX9_readsExpression_31 : decode cX9_readsExpression 31 = .ok (.iload 4, 2) := by decide +kernel
theorem dX9_readsExpression_33 : decode cX9_readsExpression 33 = .ok (.ifCond .ge 5, 3) := by decide +kernel
theorem dX9_readsExpression_36 : decode cX9_readsExpression 36 = .ok (.iconst 0, 1) := by decide +kernel
theorem dX9_readsExpression_37 : decode cX9_readsExpression 37 = .ok (.ireturn, 1) := by decide +kernel
theorem dX9_readsExpression_38 : decode cX9_readsExpression 38 = .ok (.iload_n 2, 1) := by decide +kernel
theorem dX9_readsExpression_39 : decode cX9_readsExpression 39 = .ok (.ifCond .eq 9, 3) := by decide +kernel
theorem dX9_readsExpression_42 : decode cX9_readsExpression 42 = .ok (.iload 4, 2) := by decide +kernel
theorem dX9_readsExpression_44 : decode cX9_readsExpression 44 = .ok (.iconst 1, 1) := by decide +kernel
theorem dX9_readsExpression_45 : decode cX9_readsExpression 45 = .ok (.if_icmp .eq 13, 3) := by decide +kernel
theorem dX9_readsExpression_48 : decode cX9_readsExpression 48 = .ok (.iload_n 2, 1) := by decide +kernel
theorem dX9_readsExpression_49 : decode cX9_readsExpression 49 = .ok (.ifCond .ne 13, 3) := by decide +kernel
theorem dX9_readsExpression_52 : decode cX9_readsExpression 52 = .ok (.iload 4, 2) := by decide +kernel
theorem dX9_readsExpression_54 : decode cX9_readsExpression 54 = .ok (.iconst 2, 1) := by decide +kernel
theorem dX9_readsExpression_55 : decode cX9_readsExpression 55 = .ok (.if_icmp .ne 7, 3) := by decide +kernel
theorem dX9_readsExpression_58 : decode cX9_readsExpression 58 = .ok (.aload_n 0, 1) := by decide +kernel
theorem dX9_readsExpression_59 : decode cX9_readsExpression 59 = .ok (.invokevirtual 147, 3) := by decide +kernel
theorem dX9_readsExpression_62 : decode cX9_readsExpression 62 = .ok (.iload_n 2, 1) := by decide +kernel
theorem dX9_readsExpression_63 : decode cX9_readsExpression 63 = .ok (.ifCond .ne 8, 3) := by decide +kernel
theorem dX9_readsExpression_66 : decode cX9_readsExpression 66 = .ok (.iload 4, 2) := by decide +kernel
theorem dX9_readsExpression_68 : decode cX9_readsExpression 68 = .ok (.ifCond .eq 7, 3) := by decide +kernel
theorem dX9_readsExpression_71 : decode cX9_readsExpression 71 = .ok (.iconst 1, 1) := by decide +kernel
theorem dX9_readsExpression_72 : decode cX9_readsExpression 72 = .ok (.goto 4, 3) := by decide +kernel
theorem dX9_readsExpression_75 : decode cX9_readsExpression 75 = .ok (.iconst 0, 1) := by decide +kernel
theorem dX9_readsExpression_76 : decode cX9_readsExpression 76 = .ok (.istore_n 3, 1) := by decide +kernel
theorem dX9_readsExpression_77 : decode cX9_readsExpression 77 = .ok (.iload_n 2, 1) := by decide +kernel
theorem dX9_readsExpression_78 : decode cX9_readsExpression 78 = .ok (.ifCond .eq 16, 3) := by decide +kernel
theorem dX9_readsExpression_81 : decode cX9_readsExpression 81 = .ok (.iload 4, 2) := by decide +kernel
theorem dX9_readsExpression_83 : decode cX9_readsExpression 83 = .ok (.ifCond .ne 7, 3) := by decide +kernel
theorem dX9_readsExpression_86 : decode cX9_readsExpression 86 = .ok (.iconst 1, 1) := by decide +kernel
theorem dX9_readsExpression_87 : decode cX9_readsExpression 87 = .ok (.goto 18, 3) := by decide +kernel
theorem dX9_readsExpression_90 : decode cX9_readsExpression 90 = .ok (.iconst 0, 1) := by decide +kernel
theorem dX9_readsExpression_91 : decode cX9_readsExpression 91 = .ok (.goto 14, 3) := by decide +kernel
theorem dX9_readsExpression_94 : decode cX9_readsExpression 94 = .ok (.iload 4, 2) := by decide +kernel
theorem dX9_readsExpression_96 : decode cX9_readsExpression 96 = .ok (.iconst 1, 1) := by decide +kernel
theorem dX9_readsExpression_97 : decode cX9_readsExpression 97 = .ok (.if_icmp .ne 7, 3) := by decide +kernel
theorem dX9_readsExpression_100 : decode cX9_readsExpression 100 = .ok (.iconst 1, 1) := by decide +kernel
theorem dX9_readsExpression_101 : decode cX9_readsExpression 101 = .ok (.goto 4, 3) := by decide +kernel
theorem dX9_readsExpression_104 : decode cX9_readsExpression 104 = .ok (.iconst 0, 1) := by decide +kernel
theorem dX9_readsExpression_105 : decode cX9_readsExpression 105 = .ok (.istore_n 2, 1) := by decide +kernel
theorem dX9_readsExpression_106 : decode cX9_readsExpression 106 = .ok (.goto (-97), 3) := by decide +kernel
theorem dX9_readsExpression_109 : decode cX9_readsExpression 109 = .ok (.aload_n 0, 1) := by decide +kernel
theorem dX9_readsExpression_110 : decode cX9_readsExpression 110 = .ok (.iconst 1, 1) := by decide +kernel
theorem dX9_readsExpression_111 : decode cX9_readsExpression 111 = .ok (.invokevirtual 137, 3) := by decide +kernel
theorem dX9_readsExpression_114 : decode cX9_readsExpression 114 = .ok (.iconst 1, 1) := by decide +kernel
theorem dX9_readsExpression_115 : decode cX9_readsExpression 115 = .ok (.ireturn, 1) := by decide +kernel
theorem dX9_readsProgram_0 : decode cX9_readsProgram 0 = .ok (.aload_n 0, 1) := by decide +kernel
theorem dX9_readsProgram_1 : decode cX9_readsProgram 1 = .ok (.getfield 33, 3) := by decide +kernel
theorem dX9_readsProgram_4 : decode cX9_readsProgram 4 = .ok (.bipush 12, 2) := by decide +kernel
theorem dX9_readsProgram_6 : decode cX9_readsProgram 6 = .ok (.iload_n 1, 1) := by decide +kernel
theorem dX9_readsProgram_7 : decode cX9_readsProgram 7 = .ok (.imul, 1) := by decide +kernel
theorem dX9_readsProgram_8 : decode cX9_readsProgram 8 = .ok (.bipush 7, 2) := by decide +kernel
theorem dX9_readsProgram_10 : decode cX9_readsProgram 10 = .ok (.iadd, 1) := by decide +kernel
theorem dX9_readsProgram_11 : decode cX9_readsProgram 11 = .ok (.aload_n 0, 1) := by decide +kernel
theorem dX9_readsProgram_12 : decode cX9_readsProgram 12 = .ok (.getfield 83, 3) := by decide +kernel
theorem dX9_readsProgram_15 : decode cX9_readsProgram 15 = .ok (.iastore, 1) := by decide +kernel
theorem dX9_readsProgram_16 : decode cX9_readsProgram 16 = .ok (.aload_n 0, 1) := by decide +kernel
theorem dX9_readsProgram_17 : decode cX9_readsProgram 17 = .ok (.iconst 0, 1) := by decide +kernel
theorem dX9_readsProgram_18 : decode cX9_readsProgram 18 = .ok (.invokevirtual 150, 3) := by decide +kernel
theorem dX9_readsProgram_21 : decode cX9_readsProgram 21 = .ok (.ifCond .ne 5, 3) := by decide +kernel
theorem dX9_readsProgram_24 : decode cX9_readsProgram 24 = .ok (.iconst 0, 1) := by decide +kernel
theorem dX9_readsProgram_25 : decode cX9_readsProgram 25 = .ok (.ireturn, 1) := by decide +kernel
theorem dX9_readsProgram_26 : decode cX9_readsProgram 26 = .ok (.aload_n 0, 1) := by decide +kernel
theorem dX9_readsProgram_27 : decode cX9_readsProgram 27 = .ok (.getfield 33, 3) := by decide +kernel
theorem dX9_readsProgram_30 : decode cX9_readsProgram 30 = .ok (.bipush 12, 2) := by decide +kernel
theorem dX9_readsProgram_32 : decode cX9_readsProgram 32 = .ok (.iload_n 1, 1) := by decide +kernel
theorem dX9_readsProgram_33 : decode cX9_readsProgram 33 = .ok (.imul, 1) := by decide +kernel
theorem dX9_readsProgram_34 : decode cX9_readsProgram 34 = .ok (.bipush 8, 2) := by decide +kernel
theorem dX9_readsProgram_36 : decode cX9_readsProgram 36 = .ok (.iadd, 1) := by decide +kernel
theorem dX9_readsProgram_37 : decode cX9_readsProgram 37 = .ok (.aload_n 0, 1) := by decide +kernel
theorem dX9_readsProgram_38 : decode cX9_readsProgram 38 = .ok (.getfield 83, 3) := by decide +kernel
theorem dX9_readsProgram_41 : decode cX9_readsProgram 41 = .ok (.aload_n 0, 1) := by decide +kernel
theorem dX9_readsProgram_42 : decode cX9_readsProgram 42 = .ok (.getfield 33, 3) := by decide +kernel
theorem dX9_readsProgram_45 : decode cX9_readsProgram 45 = .ok (.bipush 12, 2) := by decide +kernel
theorem dX9_readsProgram_47 : decode cX9_readsProgram 47 = .ok (.iload_n 1, 1) := by decide +kernel
theorem dX9_readsProgram_48 : decode cX9_readsProgram 48 = .ok (.imul, 1) := by decide +kernel
theorem dX9_readsProgram_49 : decode cX9_readsProgram 49 = .ok (.bipush 7, 2) := by decide +kernel
theorem dX9_readsProgram_51 : decode cX9_readsProgram 51 = .ok (.iadd, 1) := by decide +kernel
theorem dX9_readsProgram_52 : decode cX9_readsProgram 52 = .ok (.iaload, 1) := by decide +kernel
theorem dX9_readsProgram_53 : decode cX9_readsProgram 53 = .ok (.isub, 1) := by decide +kernel
theorem dX9_readsProgram_54 : decode cX9_readsProgram 54 = .ok (.iastore, 1) := by decide +kernel
theorem dX9_readsProgram_55 : decode cX9_readsProgram 55 = .ok (.aload_n 0, 1) := by decide +kernel
theorem dX9_readsProgram_56 : decode cX9_readsProgram 56 = .ok (.getfield 33, 3) := by decide +kernel
theorem dX9_readsProgram_59 : decode cX9_readsProgram 59 = .ok (.bipush 12, 2) := by decide +kernel
theorem dX9_readsProgram_61 : decode cX9_readsProgram 61 = .ok (.iload_n 1, 1) := by decide +kernel
theorem dX9_readsProgram_62 : decode cX9_readsProgram 62 = .ok (.imul, 1) := by decide +kernel
theorem dX9_readsProgram_63 : decode cX9_readsProgram 63 = .ok (.bipush 9, 2) := by decide +kernel
theorem dX9_readsProgram_65 : decode cX9_readsProgram 65 = .ok (.iadd, 1) := by decide +kernel
theorem dX9_readsProgram_66 : decode cX9_readsProgram 66 = .ok (.aload_n 0, 1) := by decide +kernel
theorem dX9_readsProgram_67 : decode cX9_readsProgram 67 = .ok (.getfield 83, 3) := by decide +kernel
theorem dX9_readsProgram_70 : decode cX9_readsProgram 70 = .ok (.iastore, 1) := by decide +kernel
theorem dX9_readsProgram_71 : decode cX9_readsProgram 71 = .ok (.aload_n 0, 1) := by decide +kernel
theorem dX9_readsProgram_72 : decode cX9_readsProgram 72 = .ok (.aload_n 0, 1) := by decide +kernel
theorem dX9_readsProgram_73 : decode cX9_readsProgram 73 = .ok (.getfield 121, 3) := by decide +kernel
theorem dX9_readsProgram_76 : decode cX9_readsProgram 76 = .ok (.invokevirtual 71, 3) := by decide +kernel
theorem dX9_readsProgram_79 : decode cX9_readsProgram 79 = .ok (.bipush 58, 2) := by decide +kernel
theorem dX9_readsProgram_81 : decode cX9_readsProgram 81 = .ok (.if_icmp .ne 23, 3) := by decide +kernel
theorem dX9_readsProgram_84 : decode cX9_readsProgram 84 = .ok (.aload_n 0, 1) := by decide +kernel
theorem dX9_readsProgram_85 : decode cX9_readsProgram 85 = .ok (.dup, 1) := by decide +kernel
theorem dX9_readsProgram_86 : decode cX9_readsProgram 86 = .ok (.getfield 121, 3) := by decide +kernel
theorem dX9_readsProgram_89 : decode cX9_readsProgram 89 = .ok (.iconst 1, 1) := by decide +kernel
theorem dX9_readsProgram_90 : decode cX9_readsProgram 90 = .ok (.iadd, 1) := by decide +kernel
theorem dX9_readsProgram_91 : decode cX9_readsProgram 91 = .ok (.putfield 121, 3) := by decide +kernel
theorem dX9_readsProgram_94 : decode cX9_readsProgram 94 = .ok (.aload_n 0, 1) := by decide +kernel
theorem dX9_readsProgram_95 : decode cX9_readsProgram 95 = .ok (.iconst 1, 1) := by decide +kernel
theorem dX9_readsProgram_96 : decode cX9_readsProgram 96 = .ok (.invokevirtual 150, 3) := by decide +kernel
theorem dX9_readsProgram_99 : decode cX9_readsProgram 99 = .ok (.ifCond .ne 5, 3) := by decide +kernel
theorem dX9_readsProgram_102 : decode cX9_readsProgram 102 = .ok (.iconst 0, 1) := by decide +kernel
theorem dX9_readsProgram_103 : decode cX9_readsProgram 103 = .ok (.ireturn, 1) := by decide +kernel
theorem dX9_readsProgram_104 : decode cX9_readsProgram 104 = .ok (.aload_n 0, 1) := by decide +kernel
theorem dX9_readsProgram_105 : decode cX9_readsProgram 105 = .ok (.getfield 33, 3) := by decide +kernel
theorem dX9_readsProgram_108 : decode cX9_readsProgram 108 = .ok (.bipush 12, 2) := by decide +kernel
theorem dX9_readsProgram_110 : decode cX9_readsProgram 110 = .ok (.iload_n 1, 1) := by decide +kernel
theorem dX9_readsProgram_111 : decode cX9_readsProgram 111 = .ok (.imul, 1) := by decide +kernel
theorem dX9_readsProgram_112 : decode cX9_readsProgram 112 = .ok (.bipush 10, 2) := by decide +kernel
theorem dX9_readsProgram_114 : decode cX9_readsProgram 114 = .ok (.iadd, 1) := by decide +kernel
theorem dX9_readsProgram_115 : decode cX9_readsProgram 115 = .ok (.aload_n 0, 1) := by decide +kernel
theorem dX9_readsProgram_116 : decode cX9_readsProgram 116 = .ok (.getfield 83, 3) := by decide +kernel
theorem dX9_readsProgram_119 : decode cX9_readsProgram 119 = .ok (.aload_n 0, 1) := by decide +kernel
theorem dX9_readsProgram_120 : decode cX9_readsProgram 120 = .ok (.getfield 33, 3) := by decide +kernel
theorem dX9_readsProgram_123 : decode cX9_readsProgram 123 = .ok (.bipush 12, 2) := by decide +kernel
theorem dX9_readsProgram_125 : decode cX9_readsProgram 125 = .ok (.iload_n 1, 1) := by decide +kernel
theorem dX9_readsProgram_126 : decode cX9_readsProgram 126 = .ok (.imul, 1) := by decide +kernel
theorem dX9_readsProgram_127 : decode cX9_readsProgram 127 = .ok (.bipush 9, 2) := by decide +kernel
theorem dX9_readsProgram_129 : decode cX9_readsProgram 129 = .ok (.iadd, 1) := by decide +kernel
theorem dX9_readsProgram_130 : decode cX9_readsProgram 130 = .ok (.iaload, 1) := by decide +kernel
theorem dX9_readsProgram_131 : decode cX9_readsProgram 131 = .ok (.isub, 1) := by decide +kernel
theorem dX9_readsProgram_132 : decode cX9_readsProgram 132 = .ok (.iastore, 1) := by decide +kernel
theorem dX9_readsProgram_133 : decode cX9_readsProgram 133 = .ok (.iconst 1, 1) := by decide +kernel
theorem dX9_readsProgram_134 : decode cX9_readsProgram 134 = .ok (.ireturn, 1) := by decide +kernel
theorem dX9_readsNumber_0 : decode cX9_readsNumber 0 = .ok (.aload_n 0, 1) := by decide +kernel
theorem dX9_readsNumber_1 : decode cX9_readsNumber 1 = .ok (.getfield 121, 3) := by decide +kernel
theorem dX9_readsNumber_4 : decode cX9_readsNumber 4 = .ok (.istore_n 1, 1) := by decide +kernel
theorem dX9_readsNumber_5 : decode cX9_readsNumber 5 = .ok (.iconst 0, 1) := by decide +kernel
theorem dX9_readsNumber_6 : decode cX9_readsNumber 6 = .ok (.istore_n 2, 1) := by decide +kernel
theorem dX9_readsNumber_7 : decode cX9_readsNumber 7 = .ok (.aload_n 0, 1) := by decide +kernel
theorem dX9_readsNumber_8 : decode cX9_readsNumber 8 = .ok (.aload_n 0, 1) := by decide +kernel
theorem dX9_readsNumber_9 : decode cX9_readsNumber 9 = .ok (.getfield 121, 3) := by decide +kernel
theorem dX9_readsNumber_12 : decode cX9_readsNumber 12 = .ok (.invokevirtual 124, 3) := by decide +kernel
theorem dX9_readsNumber_15 : decode cX9_readsNumber 15 = .ok (.ifCond .eq 46, 3) := by decide +kernel
theorem dX9_readsNumber_18 : decode cX9_readsNumber 18 = .ok (.aload_n 0, 1) := by decide +kernel
theorem dX9_readsNumber_19 : decode cX9_readsNumber 19 = .ok (.getfield 121, 3) := by decide +kernel
theorem dX9_readsNumber_22 : decode cX9_readsNumber 22 = .ok (.iload_n 1, 1) := by decide +kernel
theorem dX9_readsNumber_23 : decode cX9_readsNumber 23 = .ok (.isub, 1) := by decide +kernel
theorem dX9_readsNumber_24 : decode cX9_readsNumber 24 = .ok (.iconst 4, 1) := by decide +kernel
theorem dX9_readsNumber_25 : decode cX9_readsNumber 25 = .ok (.if_icmp .ne 5, 3) := by decide +kernel
theorem dX9_readsNumber_28 : decode cX9_readsNumber 28 = .ok (.iconst (-1), 1) := by decide +kernel
theorem dX9_readsNumber_29 : decode cX9_readsNumber 29 = .ok (.ireturn, 1) := by decide +kernel
theorem dX9_readsNumber_30 : decode cX9_readsNumber 30 = .ok (.bipush 10, 2) := by decide +kernel
theorem dX9_readsNumber_32 : decode cX9_readsNumber 32 = .ok (.iload_n 2, 1) := by decide +kernel
theorem dX9_readsNumber_33 : decode cX9_readsNumber 33 = .ok (.imul, 1) := by decide +kernel
theorem dX9_readsNumber_34 : decode cX9_readsNumber 34 = .ok (.aload_n 0, 1) := by decide +kernel
theorem dX9_readsNumber_35 : decode cX9_readsNumber 35 = .ok (.getfield 30, 3) := by decide +kernel
theorem dX9_readsNumber_38 : decode cX9_readsNumber 38 = .ok (.aload_n 0, 1) := by decide +kernel
theorem dX9_readsNumber_39 : decode cX9_readsNumber 39 = .ok (.getfield 121, 3) := by decide +kernel
theorem dX9_readsNumber_42 : decode cX9_readsNumber 42 = .ok (.iaload, 1) := by decide +kernel
theorem dX9_readsNumber_43 : decode cX9_readsNumber 43 = .ok (.iadd, 1) := by decide +kernel
theorem dX9_readsNumber_44 : decode cX9_readsNumber 44 = .ok (.bipush 48, 2) := by decide +kernel
theorem dX9_readsNumber_46 : decode cX9_readsNumber 46 = .ok (.isub, 1) := by decide +kernel
theorem dX9_readsNumber_47 : decode cX9_readsNumber 47 = .ok (.istore_n 2, 1) := by decide +kernel
theorem dX9_readsNumber_48 : decode cX9_readsNumber 48 = .ok (.aload_n 0, 1) := by decide +kernel
theorem dX9_readsNumber_49 : decode cX9_readsNumber 49 = .ok (.dup, 1) := by decide +kernel
theorem dX9_readsNumber_50 : decode cX9_readsNumber 50 = .ok (.getfield 121, 3) := by decide +kernel
theorem dX9_readsNumber_53 : decode cX9_readsNumber 53 = .ok (.iconst 1, 1) := by decide +kernel
theorem dX9_readsNumber_54 : decode cX9_readsNumber 54 = .ok (.iadd, 1) := by decide +kernel
theorem dX9_readsNumber_55 : decode cX9_readsNumber 55 = .ok (.putfield 121, 3) := by decide +kernel
theorem dX9_readsNumber_58 : decode cX9_readsNumber 58 = .ok (.goto (-51), 3) := by decide +kernel
theorem dX9_readsNumber_61 : decode cX9_readsNumber 61 = .ok (.aload_n 0, 1) := by decide +kernel
theorem dX9_readsNumber_62 : decode cX9_readsNumber 62 = .ok (.getfield 121, 3) := by decide +kernel
theorem dX9_readsNumber_65 : decode cX9_readsNumber 65 = .ok (.iload_n 1, 1) := by decide +kernel
theorem dX9_readsNumber_66 : decode cX9_readsNumber 66 = .ok (.if_icmp .ne 7, 3) := by decide +kernel
theorem dX9_readsNumber_69 : decode cX9_readsNumber 69 = .ok (.iconst (-1), 1) := by decide +kernel
theorem dX9_readsNumber_70 : decode cX9_readsNumber 70 = .ok (.goto 4, 3) := by decide +kernel
theorem dX9_readsNumber_73 : decode cX9_readsNumber 73 = .ok (.iload_n 2, 1) := by decide +kernel
theorem dX9_readsNumber_74 : decode cX9_readsNumber 74 = .ok (.ireturn, 1) := by decide +kernel
theorem dX9_readsShaper_0 : decode cX9_readsShaper 0 = .ok (.aload_n 0, 1) := by decide +kernel
theorem dX9_readsShaper_1 : decode cX9_readsShaper 1 = .ok (.dup, 1) := by decide +kernel
theorem dX9_readsShaper_2 : decode cX9_readsShaper 2 = .ok (.getfield 121, 3) := by decide +kernel
theorem dX9_readsShaper_5 : decode cX9_readsShaper 5 = .ok (.iconst 1, 1) := by decide +kernel
theorem dX9_readsShaper_6 : decode cX9_readsShaper 6 = .ok (.iadd, 1) := by decide +kernel
theorem dX9_readsShaper_7 : decode cX9_readsShaper 7 = .ok (.putfield 121, 3) := by decide +kernel
theorem dX9_readsShaper_10 : decode cX9_readsShaper 10 = .ok (.aload_n 0, 1) := by decide +kernel
theorem dX9_readsShaper_11 : decode cX9_readsShaper 11 = .ok (.getfield 121, 3) := by decide +kernel
theorem dX9_readsShaper_14 : decode cX9_readsShaper 14 = .ok (.istore_n 2, 1) := by decide +kernel
theorem dX9_readsShaper_15 : decode cX9_readsShaper 15 = .ok (.aload_n 0, 1) := by decide +kernel
theorem dX9_readsShaper_16 : decode cX9_readsShaper 16 = .ok (.invokevirtual 154, 3) := by decide +kernel
theorem dX9_readsShaper_19 : decode cX9_readsShaper 19 = .ok (.istore_n 3, 1) := by decide +kernel
theorem dX9_readsShaper_20 : decode cX9_readsShaper 20 = .ok (.iload_n 3, 1) := by decide +kernel
theorem dX9_readsShaper_21 : decode cX9_readsShaper 21 = .ok (.ifCond .ge 5, 3) := by decide +kernel
theorem dX9_readsShaper_24 : decode cX9_readsShaper 24 = .ok (.iconst 0, 1) := by decide +kernel
theorem dX9_readsShaper_25 : decode cX9_readsShaper 25 = .ok (.ireturn, 1) := by decide +kernel
theorem dX9_readsShaper_26 : decode cX9_readsShaper 26 = .ok (.iload_n 3, 1) := by decide +kernel
theorem dX9_readsShaper_27 : decode cX9_readsShaper 27 = .ok (.ifCond .ne 10, 3) := by decide +kernel
theorem dX9_readsShaper_30 : decode cX9_readsShaper 30 = .ok (.aload_n 0, 1) := by decide +kernel
theorem dX9_readsShaper_31 : decode cX9_readsShaper 31 = .ok (.iload_n 2, 1) := by decide +kernel
theorem dX9_readsShaper_32 : decode cX9_readsShaper 32 = .ok (.putfield 121, 3) := by decide +kernel
theorem dX9_readsShaper_35 : decode cX9_readsShaper 35 = .ok (.iconst 0, 1) := by decide +kernel
theorem dX9_readsShaper_36 : decode cX9_readsShaper 36 = .ok (.ireturn, 1) := by decide +kernel
theorem dX9_readsShaper_37 : decode cX9_readsShaper 37 = .ok (.aload_n 0, 1) := by decide +kernel
theorem dX9_readsShaper_38 : decode cX9_readsShaper 38 = .ok (.aload_n 0, 1) := by decide +kernel
theorem dX9_readsShaper_39 : decode cX9_readsShaper 39 = .ok (.getfield 121, 3) := by decide +kernel
theorem dX9_readsShaper_42 : decode cX9_readsShaper 42 = .ok (.invokevirtual 71, 3) := by decide +kernel
theorem dX9_readsShaper_45 : decode cX9_readsShaper 45 = .ok (.bipush 44, 2) := by decide +kernel
theorem dX9_readsShaper_47 : decode cX9_readsShaper 47 = .ok (.if_icmp .eq 5, 3) := by decide +kernel
theorem dX9_readsShaper_50 : decode cX9_readsShaper 50 = .ok (.iconst 0, 1) := by decide +kernel
theorem dX9_readsShaper_51 : decode cX9_readsShaper 51 = .ok (.ireturn, 1) := by decide +kernel
theorem dX9_readsShaper_52 : decode cX9_readsShaper 52 = .ok (.aload_n 0, 1) := by decide +kernel
theorem dX9_readsShaper_53 : decode cX9_readsShaper 53 = .ok (.dup, 1) := by decide +kernel
theorem dX9_readsShaper_54 : decode cX9_readsShaper 54 = .ok (.getfield 121, 3) := by decide +kernel
theorem dX9_readsShaper_57 : decode cX9_readsShaper 57 = .ok (.iconst 1, 1) := by decide +kernel
theorem dX9_readsShaper_58 : decode cX9_readsShaper 58 = .ok (.iadd, 1) := by decide +kernel
theorem dX9_readsShaper_59 : decode cX9_readsShaper 59 = .ok (.putfield 121, 3) := by decide +kernel
theorem dX9_readsShaper_62 : decode cX9_readsShaper 62 = .ok (.aload_n 0, 1) := by decide +kernel
theorem dX9_readsShaper_63 : decode cX9_readsShaper 63 = .ok (.invokevirtual 154, 3) := by decide +kernel
theorem dX9_readsShaper_66 : decode cX9_readsShaper 66 = .ok (.istore 4, 2) := by decide +kernel
theorem dX9_readsShaper_68 : decode cX9_readsShaper 68 = .ok (.aload_n 0, 1) := by decide +kernel
theorem dX9_readsShaper_69 : decode cX9_readsShaper 69 = .ok (.getfield 33, 3) := by decide +kernel
theorem dX9_readsShaper_72 : decode cX9_readsShaper 72 = .ok (.bipush 12, 2) := by decide +kernel
theorem dX9_readsShaper_74 : decode cX9_readsShaper 74 = .ok (.iload_n 1, 1) := by decide +kernel
theorem dX9_readsShaper_75 : decode cX9_readsShaper 75 = .ok (.imul, 1) := by decide +kernel
theorem dX9_readsShaper_76 : decode cX9_readsShaper 76 = .ok (.iconst 2, 1) := by decide +kernel
theorem dX9_readsShaper_77 : decode cX9_readsShaper 77 = .ok (.iadd, 1) := by decide +kernel
theorem dX9_readsShaper_78 : decode cX9_readsShaper 78 = .ok (.iload_n 3, 1) := by decide +kernel
theorem dX9_readsShaper_79 : decode cX9_readsShaper 79 = .ok (.iastore, 1) := by decide +kernel
theorem dX9_readsShaper_80 : decode cX9_readsShaper 80 = .ok (.aload_n 0, 1) := by decide +kernel
theorem dX9_readsShaper_81 : decode cX9_readsShaper 81 = .ok (.getfield 33, 3) := by decide +kernel
theorem dX9_readsShaper_84 : decode cX9_readsShaper 84 = .ok (.bipush 12, 2) := by decide +kernel
theorem dX9_readsShaper_86 : decode cX9_readsShaper 86 = .ok (.iload_n 1, 1) := by decide +kernel
theorem dX9_readsShaper_87 : decode cX9_readsShaper 87 = .ok (.imul, 1) := by decide +kernel
theorem dX9_readsShaper_88 : decode cX9_readsShaper 88 = .ok (.iconst 3, 1) := by decide +kernel
theorem dX9_readsShaper_89 : decode cX9_readsShaper 89 = .ok (.iadd, 1) := by decide +kernel
theorem dX9_readsShaper_90 : decode cX9_readsShaper 90 = .ok (.iload 4, 2) := by decide +kernel
theorem dX9_readsShaper_92 : decode cX9_readsShaper 92 = .ok (.iastore, 1) := by decide +kernel
theorem dX9_readsShaper_93 : decode cX9_readsShaper 93 = .ok (.iload 4, 2) := by decide +kernel
theorem dX9_readsShaper_95 : decode cX9_readsShaper 95 = .ok (.ifCond .lt 7, 3) := by decide +kernel
theorem dX9_readsShaper_98 : decode cX9_readsShaper 98 = .ok (.iconst 1, 1) := by decide +kernel
theorem dX9_readsShaper_99 : decode cX9_readsShaper 99 = .ok (.goto 4, 3) := by decide +kernel
theorem dX9_readsShaper_102 : decode cX9_readsShaper 102 = .ok (.iconst 0, 1) := by decide +kernel
theorem dX9_readsShaper_103 : decode cX9_readsShaper 103 = .ok (.ireturn, 1) := by decide +kernel
theorem dX9_readsParent_0 : decode cX9_readsParent 0 = .ok (.iconst 0, 1) := by decide +kernel
theorem dX9_readsParent_1 : decode cX9_readsParent 1 = .ok (.istore_n 2, 1) := by decide +kernel
theorem dX9_readsParent_2 : decode cX9_readsParent 2 = .ok (.iconst 0, 1) := by decide +kernel
theorem dX9_readsParent_3 : decode cX9_readsParent 3 = .ok (.istore_n 3, 1) := by decide +kernel
theorem dX9_readsParent_4 : decode cX9_readsParent 4 = .ok (.iload_n 3, 1) := by decide +kernel
theorem dX9_readsParent_5 : decode cX9_readsParent 5 = .ok (.iconst 2, 1) := by decide +kernel
theorem dX9_readsParent_6 : decode cX9_readsParent 6 = .ok (.if_icmp .ge 42, 3) := by decide +kernel
theorem dX9_readsParent_9 : decode cX9_readsParent 9 = .ok (.aload_n 0, 1) := by decide +kernel
theorem dX9_readsParent_10 : decode cX9_readsParent 10 = .ok (.aload_n 0, 1) := by decide +kernel
theorem dX9_readsParent_11 : decode cX9_readsParent 11 = .ok (.getfield 121, 3) := by decide +kernel
theorem dX9_readsParent_14 : decode cX9_readsParent 14 = .ok (.iload_n 3, 1) := by decide +kernel
theorem dX9_readsParent_15 : decode cX9_readsParent 15 = .ok (.iadd, 1) := by decide +kernel
theorem dX9_readsParent_16 : decode cX9_readsParent 16 = .ok (.invokevirtual 124, 3) := by decide +kernel
theorem dX9_readsParent_19 : decode cX9_readsParent 19 = .ok (.ifCond .eq 29, 3) := by decide +kernel
theorem dX9_readsParent_22 : decode cX9_readsParent 22 = .ok (.bipush 10, 2) := by decide +kernel
theorem dX9_readsParent_24 : decode cX9_readsParent 24 = .ok (.iload_n 2, 1) := by decide +kernel
theorem dX9_readsParent_25 : decode cX9_readsParent 25 = .ok (.imul, 1) := by decide +kernel
theorem dX9_readsParent_26 : decode cX9_readsParent 26 = .ok (.aload_n 0, 1) := by decide +kernel
theorem dX9_readsParent_27 : decode cX9_readsParent 27 = .ok (.getfield 30, 3) := by decide +kernel
theorem dX9_readsParent_30 : decode cX9_readsParent 30 = .ok (.aload_n 0, 1) := by decide +kernel
theorem dX9_readsParent_31 : decode cX9_readsParent 31 = .ok (.getfield 121, 3) := by decide +kernel
theorem dX9_readsParent_34 : decode cX9_readsParent 34 = .ok (.iload_n 3, 1) := by decide +kernel
theorem dX9_readsParent_35 : decode cX9_readsParent 35 = .ok (.iadd, 1) := by decide +kernel
theorem dX9_readsParent_36 : decode cX9_readsParent 36 = .ok (.iaload, 1) := by decide +kernel
theorem dX9_readsParent_37 : decode cX9_readsParent 37 = .ok (.iadd, 1) := by decide +kernel
theorem dX9_readsParent_38 : decode cX9_readsParent 38 = .ok (.bipush 48, 2) := by decide +kernel
theorem dX9_readsParent_40 : decode cX9_readsParent 40 = .ok (.isub, 1) := by decide +kernel
theorem dX9_readsParent_41 : decode cX9_readsParent 41 = .ok (.istore_n 2, 1) := by decide +kernel
theorem dX9_readsParent_42 : decode cX9_readsParent 42 = .ok (.iinc 3 1, 3) := by decide +kernel
theorem dX9_readsParent_45 : decode cX9_readsParent 45 = .ok (.goto (-41), 3) := by decide +kernel
theorem dX9_readsParent_48 : decode cX9_readsParent 48 = .ok (.iload_n 3, 1) := by decide +kernel
theorem dX9_readsParent_49 : decode cX9_readsParent 49 = .ok (.ifCond .eq 23, 3) := by decide +kernel
theorem dX9_readsParent_52 : decode cX9_readsParent 52 = .ok (.aload_n 0, 1) := by decide +kernel
theorem dX9_readsParent_53 : decode cX9_readsParent 53 = .ok (.aload_n 0, 1) := by decide +kernel
theorem dX9_readsParent_54 : decode cX9_readsParent 54 = .ok (.getfield 121, 3) := by decide +kernel
theorem dX9_readsParent_57 : decode cX9_readsParent 57 = .ok (.iload_n 3, 1) := by decide +kernel
theorem dX9_readsParent_58 : decode cX9_readsParent 58 = .ok (.iadd, 1) := by decide +kernel
theorem dX9_readsParent_59 : decode cX9_readsParent 59 = .ok (.invokevirtual 71, 3) := by decide +kernel
theorem dX9_readsParent_62 : decode cX9_readsParent 62 = .ok (.bipush 60, 2) := by decide +kernel
theorem dX9_readsParent_64 : decode cX9_readsParent 64 = .ok (.if_icmp .ne 8, 3) := by decide +kernel
theorem dX9_readsParent_67 : decode cX9_readsParent 67 = .ok (.iload_n 2, 1) := by decide +kernel
theorem dX9_readsParent_68 : decode cX9_readsParent 68 = .ok (.iload_n 1, 1) := by decide +kernel
theorem dX9_readsParent_69 : decode cX9_readsParent 69 = .ok (.if_icmp .lt 5, 3) := by decide +kernel
theorem dX9_readsParent_72 : decode cX9_readsParent 72 = .ok (.iconst (-1), 1) := by decide +kernel
theorem dX9_readsParent_73 : decode cX9_readsParent 73 = .ok (.ireturn, 1) := by decide +kernel
theorem dX9_readsParent_74 : decode cX9_readsParent 74 = .ok (.aload_n 0, 1) := by decide +kernel
theorem dX9_readsParent_75 : decode cX9_readsParent 75 = .ok (.dup, 1) := by decide +kernel
theorem dX9_readsParent_76 : decode cX9_readsParent 76 = .ok (.getfield 121, 3) := by decide +kernel
theorem dX9_readsParent_79 : decode cX9_readsParent 79 = .ok (.iload_n 3, 1) := by decide +kernel
theorem dX9_readsParent_80 : decode cX9_readsParent 80 = .ok (.iconst 1, 1) := by decide +kernel
theorem dX9_readsParent_81 : decode cX9_readsParent 81 = .ok (.iadd, 1) := by decide +kernel
theorem dX9_readsParent_82 : decode cX9_readsParent 82 = .ok (.iadd, 1) := by decide +kernel
theorem dX9_readsParent_83 : decode cX9_readsParent 83 = .ok (.putfield 121, 3) := by decide +kernel
theorem dX9_readsParent_86 : decode cX9_readsParent 86 = .ok (.iload_n 2, 1) := by decide +kernel
theorem dX9_readsParent_87 : decode cX9_readsParent 87 = .ok (.ireturn, 1) := by decide +kernel
theorem dX9_readsNode_0 : decode cX9_readsNode 0 = .ok (.aload_n 0, 1) := by decide +kernel
theorem dX9_readsNode_1 : decode cX9_readsNode 1 = .ok (.getfield 121, 3) := by decide +kernel
theorem dX9_readsNode_4 : decode cX9_readsNode 4 = .ok (.istore_n 2, 1) := by decide +kernel
theorem dX9_readsNode_5 : decode cX9_readsNode 5 = .ok (.iload_n 1, 1) := by decide +kernel
theorem dX9_readsNode_6 : decode cX9_readsNode 6 = .ok (.bipush 12, 2) := by decide +kernel
theorem dX9_readsNode_8 : decode cX9_readsNode 8 = .ok (.if_icmp .ne 19, 3) := by decide +kernel
theorem dX9_readsNode_11 : decode cX9_readsNode 11 = .ok (.aload_n 0, 1) := by decide +kernel
theorem dX9_readsNode_12 : decode cX9_readsNode 12 = .ok (.iload_n 2, 1) := by decide +kernel
theorem dX9_readsNode_13 : decode cX9_readsNode 13 = .ok (.iload_n 2, 1) := by decide +kernel
theorem dX9_readsNode_14 : decode cX9_readsNode 14 = .ok (.iconst (-1), 1) := by decide +kernel
theorem dX9_readsNode_15 : decode cX9_readsNode 15 = .ok (.invokevirtual 157, 3) := by decide +kernel
theorem dX9_readsNode_18 : decode cX9_readsNode 18 = .ok (.ifCond .lt 7, 3) := by decide +kernel
theorem dX9_readsNode_21 : decode cX9_readsNode 21 = .ok (.iconst 1, 1) := by decide +kernel
theorem dX9_readsNode_22 : decode cX9_readsNode 22 = .ok (.goto 4, 3) := by decide +kernel
theorem dX9_readsNode_25 : decode cX9_readsNode 25 = .ok (.iconst 0, 1) := by decide +kernel
theorem dX9_readsNode_26 : decode cX9_readsNode 26 = .ok (.ireturn, 1) := by decide +kernel
theorem dX9_readsNode_27 : decode cX9_readsNode 27 = .ok (.aload_n 0, 1) := by decide +kernel
theorem dX9_readsNode_28 : decode cX9_readsNode 28 = .ok (.getfield 33, 3) := by decide +kernel
theorem dX9_readsNode_31 : decode cX9_readsNode 31 = .ok (.bipush 12, 2) := by decide +kernel
theorem dX9_readsNode_33 : decode cX9_readsNode 33 = .ok (.iload_n 1, 1) := by decide +kernel
theorem dX9_readsNode_34 : decode cX9_readsNode 34 = .ok (.imul, 1) := by decide +kernel
theorem dX9_readsNode_35 : decode cX9_readsNode 35 = .ok (.iconst 0, 1) := by decide +kernel
theorem dX9_readsNode_36 : decode cX9_readsNode 36 = .ok (.iadd, 1) := by decide +kernel
theorem dX9_readsNode_37 : decode cX9_readsNode 37 = .ok (.iload_n 1, 1) := by decide +kernel
theorem dX9_readsNode_38 : decode cX9_readsNode 38 = .ok (.ifCond .ne 7, 3) := by decide +kernel
theorem dX9_readsNode_41 : decode cX9_readsNode 41 = .ok (.iconst (-1), 1) := by decide +kernel
theorem dX9_readsNode_42 : decode cX9_readsNode 42 = .ok (.goto 8, 3) := by decide +kernel
theorem dX9_readsNode_45 : decode cX9_readsNode 45 = .ok (.aload_n 0, 1) := by decide +kernel
theorem dX9_readsNode_46 : decode cX9_readsNode 46 = .ok (.iload_n 1, 1) := by decide +kernel
theorem dX9_readsNode_47 : decode cX9_readsNode 47 = .ok (.invokevirtual 161, 3) := by decide +kernel
theorem dX9_readsNode_50 : decode cX9_readsNode 50 = .ok (.iastore, 1) := by decide +kernel
theorem dX9_readsNode_51 : decode cX9_readsNode 51 = .ok (.iload_n 1, 1) := by decide +kernel
theorem dX9_readsNode_52 : decode cX9_readsNode 52 = .ok (.ifCond .le 33, 3) := by decide +kernel
theorem dX9_readsNode_55 : decode cX9_readsNode 55 = .ok (.aload_n 0, 1) := by decide +kernel
theorem dX9_readsNode_56 : decode cX9_readsNode 56 = .ok (.getfield 33, 3) := by decide +kernel
theorem dX9_readsNode_59 : decode cX9_readsNode 59 = .ok (.bipush 12, 2) := by decide +kernel
theorem dX9_readsNode_61 : decode cX9_readsNode 61 = .ok (.iload_n 1, 1) := by decide +kernel
theorem dX9_readsNode_62 : decode cX9_readsNode 62 = .ok (.imul, 1) := by decide +kernel
theorem dX9_readsNode_63 : decode cX9_readsNode 63 = .ok (.iconst 0, 1) := by decide +kernel
theorem dX9_readsNode_64 : decode cX9_readsNode 64 = .ok (.iadd, 1) := by decide +kernel
theorem dX9_readsNode_65 : decode cX9_readsNode 65 = .ok (.iaload, 1) := by decide +kernel
theorem dX9_readsNode_66 : decode cX9_readsNode 66 = .ok (.ifCond .ge 19, 3) := by decide +kernel
theorem dX9_readsNode_69 : decode cX9_readsNode 69 = .ok (.aload_n 0, 1) := by decide +kernel
theorem dX9_readsNode_70 : decode cX9_readsNode 70 = .ok (.iload_n 2, 1) := by decide +kernel
theorem dX9_readsNode_71 : decode cX9_readsNode 71 = .ok (.iload_n 2, 1) := by decide +kernel
theorem dX9_readsNode_72 : decode cX9_readsNode 72 = .ok (.iconst (-1), 1) := by decide +kernel
theorem dX9_readsNode_73 : decode cX9_readsNode 73 = .ok (.invokevirtual 157, 3) := by decide +kernel
theorem dX9_readsNode_76 : decode cX9_readsNode 76 = .ok (.ifCond .lt 7, 3) := by decide +kernel
theorem dX9_readsNode_79 : decode cX9_readsNode 79 = .ok (.iconst 1, 1) := by decide +kernel
theorem dX9_readsNode_80 : decode cX9_readsNode 80 = .ok (.goto 4, 3) := by decide +kernel
theorem dX9_readsNode_83 : decode cX9_readsNode 83 = .ok (.iconst 0, 1) := by decide +kernel
theorem dX9_readsNode_84 : decode cX9_readsNode 84 = .ok (.ireturn, 1) := by decide +kernel
theorem dX9_readsNode_85 : decode cX9_readsNode 85 = .ok (.aload_n 0, 1) := by decide +kernel
theorem dX9_readsNode_86 : decode cX9_readsNode 86 = .ok (.getfield 121, 3) := by decide +kernel
theorem dX9_readsNode_89 : decode cX9_readsNode 89 = .ok (.istore_n 3, 1) := by decide +kernel
theorem dX9_readsNode_90 : decode cX9_readsNode 90 = .ok (.aload_n 0, 1) := by decide +kernel
theorem dX9_readsNode_91 : decode cX9_readsNode 91 = .ok (.iload_n 1, 1) := by decide +kernel
theorem dX9_readsNode_92 : decode cX9_readsNode 92 = .ok (.invokevirtual 164, 3) := by decide +kernel
theorem dX9_readsNode_95 : decode cX9_readsNode 95 = .ok (.ifCond .ne 22, 3) := by decide +kernel
theorem dX9_readsNode_98 : decode cX9_readsNode 98 = .ok (.aload_n 0, 1) := by decide +kernel
theorem dX9_readsNode_99 : decode cX9_readsNode 99 = .ok (.iload_n 2, 1) := by decide +kernel
theorem dX9_readsNode_100 : decode cX9_readsNode 100 = .ok (.iload_n 3, 1) := by decide +kernel
theorem dX9_readsNode_101 : decode cX9_readsNode 101 = .ok (.aload_n 0, 1) := by decide +kernel
theorem dX9_readsNode_102 : decode cX9_readsNode 102 = .ok (.getfield 121, 3) := by decide +kernel
theorem dX9_readsNode_105 : decode cX9_readsNode 105 = .ok (.invokevirtual 157, 3) := by decide +kernel
theorem dX9_readsNode_108 : decode cX9_readsNode 108 = .ok (.ifCond .lt 7, 3) := by decide +kernel
theorem dX9_readsNode_111 : decode cX9_readsNode 111 = .ok (.iconst 1, 1) := by decide +kernel
theorem dX9_readsNode_112 : decode cX9_readsNode 112 = .ok (.goto 4, 3) := by decide +kernel
theorem dX9_readsNode_115 : decode cX9_readsNode 115 = .ok (.iconst 0, 1) := by decide +kernel
theorem dX9_readsNode_116 : decode cX9_readsNode 116 = .ok (.ireturn, 1) := by decide +kernel
theorem dX9_readsNode_117 : decode cX9_readsNode 117 = .ok (.aload_n 0, 1) := by decide +kernel
theorem dX9_readsNode_118 : decode cX9_readsNode 118 = .ok (.getfield 33, 3) := by decide +kernel
theorem dX9_readsNode_121 : decode cX9_readsNode 121 = .ok (.bipush 12, 2) := by decide +kernel
theorem dX9_readsNode_123 : decode cX9_readsNode 123 = .ok (.iload_n 1, 1) := by decide +kernel
theorem dX9_readsNode_124 : decode cX9_readsNode 124 = .ok (.imul, 1) := by decide +kernel
theorem dX9_readsNode_125 : decode cX9_readsNode 125 = .ok (.iconst 2, 1) := by decide +kernel
theorem dX9_readsNode_126 : decode cX9_readsNode 126 = .ok (.iadd, 1) := by decide +kernel
theorem dX9_readsNode_127 : decode cX9_readsNode 127 = .ok (.iconst 0, 1) := by decide +kernel
theorem dX9_readsNode_128 : decode cX9_readsNode 128 = .ok (.iastore, 1) := by decide +kernel
theorem dX9_readsNode_129 : decode cX9_readsNode 129 = .ok (.aload_n 0, 1) := by decide +kernel
theorem dX9_readsNode_130 : decode cX9_readsNode 130 = .ok (.getfield 33, 3) := by decide +kernel
theorem dX9_readsNode_133 : decode cX9_readsNode 133 = .ok (.bipush 12, 2) := by decide +kernel
theorem dX9_readsNode_135 : decode cX9_readsNode 135 = .ok (.iload_n 1, 1) := by decide +kernel
theorem dX9_readsNode_136 : decode cX9_readsNode 136 = .ok (.imul, 1) := by decide +kernel
theorem dX9_readsNode_137 : decode cX9_readsNode 137 = .ok (.iconst 3, 1) := by decide +kernel
theorem dX9_readsNode_138 : decode cX9_readsNode 138 = .ok (.iadd, 1) := by decide +kernel
theorem dX9_readsNode_139 : decode cX9_readsNode 139 = .ok (.iconst 0, 1) := by decide +kernel
theorem dX9_readsNode_140 : decode cX9_readsNode 140 = .ok (.iastore, 1) := by decide +kernel
theorem dX9_readsNode_141 : decode cX9_readsNode 141 = .ok (.aload_n 0, 1) := by decide +kernel
theorem dX9_readsNode_142 : decode cX9_readsNode 142 = .ok (.getfield 121, 3) := by decide +kernel
theorem dX9_readsNode_145 : decode cX9_readsNode 145 = .ok (.istore_n 3, 1) := by decide +kernel
theorem dX9_readsNode_146 : decode cX9_readsNode 146 = .ok (.iload_n 1, 1) := by decide +kernel
theorem dX9_readsNode_147 : decode cX9_readsNode 147 = .ok (.ifCond .le 43, 3) := by decide +kernel
theorem dX9_readsNode_150 : decode cX9_readsNode 150 = .ok (.aload_n 0, 1) := by decide +kernel
theorem dX9_readsNode_151 : decode cX9_readsNode 151 = .ok (.aload_n 0, 1) := by decide +kernel
theorem dX9_readsNode_152 : decode cX9_readsNode 152 = .ok (.getfield 121, 3) := by decide +kernel
theorem dX9_readsNode_155 : decode cX9_readsNode 155 = .ok (.invokevirtual 71, 3) := by decide +kernel
theorem dX9_readsNode_158 : decode cX9_readsNode 158 = .ok (.bipush 64, 2) := by decide +kernel
theorem dX9_readsNode_160 : decode cX9_readsNode 160 = .ok (.if_icmp .ne 30, 3) := by decide +kernel
theorem dX9_readsNode_163 : decode cX9_readsNode 163 = .ok (.aload_n 0, 1) := by decide +kernel
theorem dX9_readsNode_164 : decode cX9_readsNode 164 = .ok (.iload_n 1, 1) := by decide +kernel
theorem dX9_readsNode_165 : decode cX9_readsNode 165 = .ok (.invokevirtual 167, 3) := by decide +kernel
theorem dX9_readsNode_168 : decode cX9_readsNode 168 = .ok (.ifCond .ne 22, 3) := by decide +kernel
theorem dX9_readsNode_171 : decode cX9_readsNode 171 = .ok (.aload_n 0, 1) := by decide +kernel
theorem dX9_readsNode_172 : decode cX9_readsNode 172 = .ok (.iload_n 2, 1) := by decide +kernel
theorem dX9_readsNode_173 : decode cX9_readsNode 173 = .ok (.iload_n 3, 1) := by decide +kernel
theorem dX9_readsNode_174 : decode cX9_readsNode 174 = .ok (.aload_n 0, 1) := by decide +kernel
theorem dX9_readsNode_175 : decode cX9_readsNode 175 = .ok (.getfield 121, 3) := by decide +kernel
theorem dX9_readsNode_178 : decode cX9_readsNode 178 = .ok (.invokevirtual 157, 3) := by decide +kernel
theorem dX9_readsNode_181 : decode cX9_readsNode 181 = .ok (.ifCond .lt 7, 3) := by decide +kernel
theorem dX9_readsNode_184 : decode cX9_readsNode 184 = .ok (.iconst 1, 1) := by decide +kernel
theorem dX9_readsNode_185 : decode cX9_readsNode 185 = .ok (.goto 4, 3) := by decide +kernel
theorem dX9_readsNode_188 : decode cX9_readsNode 188 = .ok (.iconst 0, 1) := by decide +kernel
theorem dX9_readsNode_189 : decode cX9_readsNode 189 = .ok (.ireturn, 1) := by decide +kernel
theorem dX9_readsNode_190 : decode cX9_readsNode 190 = .ok (.aload_n 0, 1) := by decide +kernel
theorem dX9_readsNode_191 : decode cX9_readsNode 191 = .ok (.aload_n 0, 1) := by decide +kernel
theorem dX9_readsNode_192 : decode cX9_readsNode 192 = .ok (.getfield 121, 3) := by decide +kernel
theorem dX9_readsNode_195 : decode cX9_readsNode 195 = .ok (.invokevirtual 71, 3) := by decide +kernel
theorem dX9_readsNode_198 : decode cX9_readsNode 198 = .ok (.bipush 94, 2) := by decide +kernel
theorem dX9_readsNode_200 : decode cX9_readsNode 200 = .ok (.if_icmp .ne 7, 3) := by decide +kernel
theorem dX9_readsNode_203 : decode cX9_readsNode 203 = .ok (.iconst 1, 1) := by decide +kernel
theorem dX9_readsNode_204 : decode cX9_readsNode 204 = .ok (.goto 38, 3) := by decide +kernel
theorem dX9_readsNode_207 : decode cX9_readsNode 207 = .ok (.aload_n 0, 1) := by decide +kernel
theorem dX9_readsNode_208 : decode cX9_readsNode 208 = .ok (.aload_n 0, 1) := by decide +kernel
theorem dX9_readsNode_209 : decode cX9_readsNode 209 = .ok (.getfield 121, 3) := by decide +kernel
theorem dX9_readsNode_212 : decode cX9_readsNode 212 = .ok (.invokevirtual 71, 3) := by decide +kernel
theorem dX9_readsNode_215 : decode cX9_readsNode 215 = .ok (.bipush 37, 2) := by decide +kernel
theorem dX9_readsNode_217 : decode cX9_readsNode 217 = .ok (.if_icmp .ne 7, 3) := by decide +kernel
theorem dX9_readsNode_220 : decode cX9_readsNode 220 = .ok (.iconst 2, 1) := by decide +kernel
theorem dX9_readsNode_221 : decode cX9_readsNode 221 = .ok (.goto 21, 3) := by decide +kernel
theorem dX9_readsNode_224 : decode cX9_readsNode 224 = .ok (.aload_n 0, 1) := by decide +kernel
theorem dX9_readsNode_225 : decode cX9_readsNode 225 = .ok (.aload_n 0, 1) := by decide +kernel
theorem dX9_readsNode_226 : decode cX9_readsNode 226 = .ok (.getfield 121, 3) := by decide +kernel
theorem dX9_readsNode_229 : decode cX9_readsNode 229 = .ok (.invokevirtual 71, 3) := by decide +kernel
theorem dX9_readsNode_232 : decode cX9_readsNode 232 = .ok (.bipush 38, 2) := by decide +kernel
theorem dX9_readsNode_234 : decode cX9_readsNode 234 = .ok (.if_icmp .ne 7, 3) := by decide +kernel
theorem dX9_readsNode_237 : decode cX9_readsNode 237 = .ok (.iconst 3, 1) := by decide +kernel
theorem dX9_readsNode_238 : decode cX9_readsNode 238 = .ok (.goto 4, 3) := by decide +kernel
theorem dX9_readsNode_241 : decode cX9_readsNode 241 = .ok (.iconst 0, 1) := by decide +kernel
theorem dX9_readsNode_242 : decode cX9_readsNode 242 = .ok (.istore 4, 2) := by decide +kernel
theorem dX9_readsNode_244 : decode cX9_readsNode 244 = .ok (.aload_n 0, 1) := by decide +kernel
theorem dX9_readsNode_245 : decode cX9_readsNode 245 = .ok (.getfield 33, 3) := by decide +kernel
theorem dX9_readsNode_248 : decode cX9_readsNode 248 = .ok (.bipush 12, 2) := by decide +kernel
theorem dX9_readsNode_250 : decode cX9_readsNode 250 = .ok (.iload_n 1, 1) := by decide +kernel
theorem dX9_readsNode_251 : decode cX9_readsNode 251 = .ok (.imul, 1) := by decide +kernel
theorem dX9_readsNode_252 : decode cX9_readsNode 252 = .ok (.iconst 1, 1) := by decide +kernel
theorem dX9_readsNode_253 : decode cX9_readsNode 253 = .ok (.iadd, 1) := by decide +kernel
theorem dX9_readsNode_254 : decode cX9_readsNode 254 = .ok (.iload 4, 2) := by decide +kernel
theorem dX9_readsNode_256 : decode cX9_readsNode 256 = .ok (.iastore, 1) := by decide +kernel
theorem dX9_readsNode_257 : decode cX9_readsNode 257 = .ok (.aload_n 0, 1) := by decide +kernel
theorem dX9_readsNode_258 : decode cX9_readsNode 258 = .ok (.dup, 1) := by decide +kernel
theorem dX9_readsNode_259 : decode cX9_readsNode 259 = .ok (.getfield 121, 3) := by decide +kernel
theorem dX9_readsNode_262 : decode cX9_readsNode 262 = .ok (.iload 4, 2) := by decide +kernel
theorem dX9_readsNode_264 : decode cX9_readsNode 264 = .ok (.ifCond .le 7, 3) := by decide +kernel
theorem dX9_readsNode_267 : decode cX9_readsNode 267 = .ok (.iconst 1, 1) := by decide +kernel
theorem dX9_readsNode_268 : decode cX9_readsNode 268 = .ok (.goto 4, 3) := by decide +kernel
theorem dX9_readsNode_271 : decode cX9_readsNode 271 = .ok (.iconst 0, 1) := by decide +kernel
theorem dX9_readsNode_272 : decode cX9_readsNode 272 = .ok (.iadd, 1) := by decide +kernel
theorem dX9_readsNode_273 : decode cX9_readsNode 273 = .ok (.putfield 121, 3) := by decide +kernel
theorem dX9_readsNode_276 : decode cX9_readsNode 276 = .ok (.aload_n 0, 1) := by decide +kernel
theorem dX9_readsNode_277 : decode cX9_readsNode 277 = .ok (.getfield 121, 3) := by decide +kernel
theorem dX9_readsNode_280 : decode cX9_readsNode 280 = .ok (.aload_n 0, 1) := by decide +kernel
theorem dX9_readsNode_281 : decode cX9_readsNode 281 = .ok (.getfield 68, 3) := by decide +kernel
theorem dX9_readsNode_284 : decode cX9_readsNode 284 = .ok (.if_icmp .eq 29, 3) := by decide +kernel
theorem dX9_readsNode_287 : decode cX9_readsNode 287 = .ok (.aload_n 0, 1) := by decide +kernel
theorem dX9_readsNode_288 : decode cX9_readsNode 288 = .ok (.aload_n 0, 1) := by decide +kernel
theorem dX9_readsNode_289 : decode cX9_readsNode 289 = .ok (.getfield 121, 3) := by decide +kernel
theorem dX9_readsNode_292 : decode cX9_readsNode 292 = .ok (.invokevirtual 71, 3) := by decide +kernel
theorem dX9_readsNode_295 : decode cX9_readsNode 295 = .ok (.bipush 59, 2) := by decide +kernel
theorem dX9_readsNode_297 : decode cX9_readsNode 297 = .ok (.if_icmp .eq 16, 3) := by decide +kernel
theorem dX9_readsNode_300 : decode cX9_readsNode 300 = .ok (.aload_n 0, 1) := by decide +kernel
theorem dX9_readsNode_301 : decode cX9_readsNode 301 = .ok (.iload_n 2, 1) := by decide +kernel
theorem dX9_readsNode_302 : decode cX9_readsNode 302 = .ok (.aload_n 0, 1) := by decide +kernel
theorem dX9_readsNode_303 : decode cX9_readsNode 303 = .ok (.getfield 121, 3) := by decide +kernel
theorem dX9_readsNode_306 : decode cX9_readsNode 306 = .ok (.iconst (-1), 1) := by decide +kernel
theorem dX9_readsNode_307 : decode cX9_readsNode 307 = .ok (.invokevirtual 157, 3) := by decide +kernel
theorem dX9_readsNode_310 : decode cX9_readsNode 310 = .ok (.ifCond .lt 7, 3) := by decide +kernel
theorem dX9_readsNode_313 : decode cX9_readsNode 313 = .ok (.iconst 1, 1) := by decide +kernel
theorem dX9_readsNode_314 : decode cX9_readsNode 314 = .ok (.goto 4, 3) := by decide +kernel
theorem dX9_readsNode_317 : decode cX9_readsNode 317 = .ok (.iconst 0, 1) := by decide +kernel
theorem dX9_readsNode_318 : decode cX9_readsNode 318 = .ok (.ireturn, 1) := by decide +kernel
theorem dX9_reads_0 : decode cX9_reads 0 = .ok (.aload_n 0, 1) := by decide +kernel
theorem dX9_reads_1 : decode cX9_reads 1 = .ok (.iconst 0, 1) := by decide +kernel
theorem dX9_reads_2 : decode cX9_reads 2 = .ok (.putfield 121, 3) := by decide +kernel
theorem dX9_reads_5 : decode cX9_reads 5 = .ok (.aload_n 0, 1) := by decide +kernel
theorem dX9_reads_6 : decode cX9_reads 6 = .ok (.iconst 0, 1) := by decide +kernel
theorem dX9_reads_7 : decode cX9_reads 7 = .ok (.putfield 83, 3) := by decide +kernel
theorem dX9_reads_10 : decode cX9_reads 10 = .ok (.aload_n 0, 1) := by decide +kernel
theorem dX9_reads_11 : decode cX9_reads 11 = .ok (.iconst 0, 1) := by decide +kernel
theorem dX9_reads_12 : decode cX9_reads 12 = .ok (.putfield 170, 3) := by decide +kernel
theorem dX9_reads_15 : decode cX9_reads 15 = .ok (.iconst 1, 1) := by decide +kernel
theorem dX9_reads_16 : decode cX9_reads 16 = .ok (.istore_n 1, 1) := by decide +kernel
theorem dX9_reads_17 : decode cX9_reads 17 = .ok (.iload_n 1, 1) := by decide +kernel
theorem dX9_reads_18 : decode cX9_reads 18 = .ok (.ifCond .eq 83, 3) := by decide +kernel
theorem dX9_reads_21 : decode cX9_reads 21 = .ok (.aload_n 0, 1) := by decide +kernel
theorem dX9_reads_22 : decode cX9_reads 22 = .ok (.aload_n 0, 1) := by decide +kernel
theorem dX9_reads_23 : decode cX9_reads 23 = .ok (.getfield 170, 3) := by decide +kernel
theorem dX9_reads_26 : decode cX9_reads 26 = .ok (.invokevirtual 173, 3) := by decide +kernel
theorem dX9_reads_29 : decode cX9_reads 29 = .ok (.ifCond .ne 32, 3) := by decide +kernel
theorem dX9_reads_32 : decode cX9_reads 32 = .ok (.aload_n 0, 1) := by decide +kernel
theorem dX9_reads_33 : decode cX9_reads 33 = .ok (.getfield 27, 3) := by decide +kernel
theorem dX9_reads_36 : decode cX9_reads 36 = .ok (.iconst 2, 1) := by decide +kernel
theorem dX9_reads_37 : decode cX9_reads 37 = .ok (.iaload, 1) := by decide +kernel
theorem dX9_reads_38 : decode cX9_reads 38 = .ok (.ifCond .lt 14, 3) := by decide +kernel
theorem dX9_reads_41 : decode cX9_reads 41 = .ok (.iconst (-1), 1) := by decide +kernel
theorem dX9_reads_42 : decode cX9_reads 42 = .ok (.aload_n 0, 1) := by decide +kernel
theorem dX9_reads_43 : decode cX9_reads 43 = .ok (.getfield 27, 3) := by decide +kernel
theorem dX9_reads_46 : decode cX9_reads 46 = .ok (.iconst 2, 1) := by decide +kernel
theorem dX9_reads_47 : decode cX9_reads 47 = .ok (.iaload, 1) := by decide +kernel
theorem dX9_reads_48 : decode cX9_reads 48 = .ok (.isub, 1) := by decide +kernel
theorem dX9_reads_49 : decode cX9_reads 49 = .ok (.goto 11, 3) := by decide +kernel
theorem dX9_reads_52 : decode cX9_reads 52 = .ok (.iconst (-1), 1) := by decide +kernel
theorem dX9_reads_53 : decode cX9_reads 53 = .ok (.aload_n 0, 1) := by decide +kernel
theorem dX9_reads_54 : decode cX9_reads 54 = .ok (.getfield 27, 3) := by decide +kernel
theorem dX9_reads_57 : decode cX9_reads 57 = .ok (.iconst 1, 1) := by decide +kernel
theorem dX9_reads_58 : decode cX9_reads 58 = .ok (.iaload, 1) := by decide +kernel
theorem dX9_reads_59 : decode cX9_reads 59 = .ok (.isub, 1) := by decide +kernel
theorem dX9_reads_60 : decode cX9_reads 60 = .ok (.ireturn, 1) := by decide +kernel
theorem dX9_reads_61 : decode cX9_reads 61 = .ok (.aload_n 0, 1) := by decide +kernel
theorem dX9_reads_62 : decode cX9_reads 62 = .ok (.dup, 1) := by decide +kernel
theorem dX9_reads_63 : decode cX9_reads 63 = .ok (.getfield 170, 3) := by decide +kernel
theorem dX9_reads_66 : decode cX9_reads 66 = .ok (.iconst 1, 1) := by decide +kernel
theorem dX9_reads_67 : decode cX9_reads 67 = .ok (.iadd, 1) := by decide +kernel
theorem dX9_reads_68 : decode cX9_reads 68 = .ok (.putfield 170, 3) := by decide +kernel
theorem dX9_reads_71 : decode cX9_reads 71 = .ok (.aload_n 0, 1) := by decide +kernel
theorem dX9_reads_72 : decode cX9_reads 72 = .ok (.getfield 121, 3) := by decide +kernel
theorem dX9_reads_75 : decode cX9_reads 75 = .ok (.aload_n 0, 1) := by decide +kernel
theorem dX9_reads_76 : decode cX9_reads 76 = .ok (.getfield 68, 3) := by decide +kernel
theorem dX9_reads_79 : decode cX9_reads 79 = .ok (.if_icmp .ge 7, 3) := by decide +kernel
theorem dX9_reads_82 : decode cX9_reads 82 = .ok (.iconst 1, 1) := by decide +kernel
theorem dX9_reads_83 : decode cX9_reads 83 = .ok (.goto 4, 3) := by decide +kernel
theorem dX9_reads_86 : decode cX9_reads 86 = .ok (.iconst 0, 1) := by decide +kernel
theorem dX9_reads_87 : decode cX9_reads 87 = .ok (.istore_n 1, 1) := by decide +kernel
theorem dX9_reads_88 : decode cX9_reads 88 = .ok (.aload_n 0, 1) := by decide +kernel
theorem dX9_reads_89 : decode cX9_reads 89 = .ok (.dup, 1) := by decide +kernel
theorem dX9_reads_90 : decode cX9_reads 90 = .ok (.getfield 121, 3) := by decide +kernel
theorem dX9_reads_93 : decode cX9_reads 93 = .ok (.iconst 1, 1) := by decide +kernel
theorem dX9_reads_94 : decode cX9_reads 94 = .ok (.iadd, 1) := by decide +kernel
theorem dX9_reads_95 : decode cX9_reads 95 = .ok (.putfield 121, 3) := by decide +kernel
theorem dX9_reads_98 : decode cX9_reads 98 = .ok (.goto (-81), 3) := by decide +kernel
theorem dX9_reads_101 : decode cX9_reads 101 = .ok (.aload_n 0, 1) := by decide +kernel
theorem dX9_reads_102 : decode cX9_reads 102 = .ok (.getfield 170, 3) := by decide +kernel
theorem dX9_reads_105 : decode cX9_reads 105 = .ok (.ireturn, 1) := by decide +kernel
theorem dX9_isLeaf_0 : decode cX9_isLeaf 0 = .ok (.iconst 1, 1) := by decide +kernel
theorem dX9_isLeaf_1 : decode cX9_isLeaf 1 = .ok (.istore_n 2, 1) := by decide +kernel
theorem dX9_isLeaf_2 : decode cX9_isLeaf 2 = .ok (.iconst 0, 1) := by decide +kernel
theorem dX9_isLeaf_3 : decode cX9_isLeaf 3 = .ok (.istore_n 3, 1) := by decide +kernel
theorem dX9_isLeaf_4 : decode cX9_isLeaf 4 = .ok (.iload_n 3, 1) := by decide +kernel
theorem dX9_isLeaf_5 : decode cX9_isLeaf 5 = .ok (.i2l, 1) := by decide +kernel
theorem dX9_isLeaf_6 : decode cX9_isLeaf 6 = .ok (.aload_n 0, 1) := by decide +kernel
theorem dX9_isLeaf_7 : decode cX9_isLeaf 7 = .ok (.getfield 7, 3) := by decide +kernel
theorem dX9_isLeaf_10 : decode cX9_isLeaf 10 = .ok (.iconst 2, 1) := by decide +kernel
theorem dX9_isLeaf_11 : decode cX9_isLeaf 11 = .ok (.laload, 1) := by decide +kernel
theorem dX9_isLeaf_12 : decode cX9_isLeaf 12 = .ok (.lcmp, 1) := by decide +kernel
theorem dX9_isLeaf_13 : decode cX9_isLeaf 13 = .ok (.ifCond .ge 36, 3) := by decide +kernel
theorem dX9_isLeaf_16 : decode cX9_isLeaf 16 = .ok (.iload_n 2, 1) := by decide +kernel
theorem dX9_isLeaf_17 : decode cX9_isLeaf 17 = .ok (.ifCond .eq 24, 3) := by decide +kernel
theorem dX9_isLeaf_20 : decode cX9_isLeaf 20 = .ok (.aload_n 0, 1) := by decide +kernel
theorem dX9_isLeaf_21 : decode cX9_isLeaf 21 = .ok (.getfield 7, 3) := by decide +kernel
theorem dX9_isLeaf_24 : decode cX9_isLeaf 24 = .ok (.iload_n 3, 1) := by decide +kernel
theorem dX9_isLeaf_25 : decode cX9_isLeaf 25 = .ok (.invokestatic 176, 3) := by decide +kernel
theorem dX9_isLeaf_28 : decode cX9_isLeaf 28 = .ok (.iconst 0, 1) := by decide +kernel
theorem dX9_isLeaf_29 : decode cX9_isLeaf 29 = .ok (.iadd, 1) := by decide +kernel
theorem dX9_isLeaf_30 : decode cX9_isLeaf 30 = .ok (.laload, 1) := by decide +kernel
theorem dX9_isLeaf_31 : decode cX9_isLeaf 31 = .ok (.iload_n 1, 1) := by decide +kernel
theorem dX9_isLeaf_32 : decode cX9_isLeaf 32 = .ok (.i2l, 1) := by decide +kernel
theorem dX9_isLeaf_33 : decode cX9_isLeaf 33 = .ok (.lcmp, 1) := by decide +kernel
theorem dX9_isLeaf_34 : decode cX9_isLeaf 34 = .ok (.ifCond .eq 7, 3) := by decide +kernel
theorem dX9_isLeaf_37 : decode cX9_isLeaf 37 = .ok (.iconst 1, 1) := by decide +kernel
theorem dX9_isLeaf_38 : decode cX9_isLeaf 38 = .ok (.goto 4, 3) := by decide +kernel
theorem dX9_isLeaf_41 : decode cX9_isLeaf 41 = .ok (.iconst 0, 1) := by decide +kernel
theorem dX9_isLeaf_42 : decode cX9_isLeaf 42 = .ok (.istore_n 2, 1) := by decide +kernel
theorem dX9_isLeaf_43 : decode cX9_isLeaf 43 = .ok (.iinc 3 1, 3) := by decide +kernel
theorem dX9_isLeaf_46 : decode cX9_isLeaf 46 = .ok (.goto (-42), 3) := by decide +kernel
theorem dX9_isLeaf_49 : decode cX9_isLeaf 49 = .ok (.iload_n 2, 1) := by decide +kernel
theorem dX9_isLeaf_50 : decode cX9_isLeaf 50 = .ok (.ireturn, 1) := by decide +kernel
theorem dX9_loads_0 : decode cX9_loads 0 = .ok (.aload_n 0, 1) := by decide +kernel
theorem dX9_loads_1 : decode cX9_loads 1 = .ok (.getfield 7, 3) := by decide +kernel
theorem dX9_loads_4 : decode cX9_loads 4 = .ok (.iconst 1, 1) := by decide +kernel
theorem dX9_loads_5 : decode cX9_loads 5 = .ok (.laload, 1) := by decide +kernel
theorem dX9_loads_6 : decode cX9_loads 6 = .ok (.lstore_n 1, 1) := by decide +kernel
theorem dX9_loads_7 : decode cX9_loads 7 = .ok (.iconst 0, 1) := by decide +kernel
theorem dX9_loads_8 : decode cX9_loads 8 = .ok (.istore_n 3, 1) := by decide +kernel
theorem dX9_loads_9 : decode cX9_loads 9 = .ok (.iload_n 3, 1) := by decide +kernel
theorem dX9_loads_10 : decode cX9_loads 10 = .ok (.bipush 16, 2) := by decide +kernel
theorem dX9_loads_12 : decode cX9_loads 12 = .ok (.if_icmp .ge 26, 3) := by decide +kernel
theorem dX9_loads_15 : decode cX9_loads 15 = .ok (.aload_n 0, 1) := by decide +kernel
theorem dX9_loads_16 : decode cX9_loads 16 = .ok (.getfield 13, 3) := by decide +kernel
theorem dX9_loads_19 : decode cX9_loads 19 = .ok (.iload_n 3, 1) := by decide +kernel
theorem dX9_loads_20 : decode cX9_loads 20 = .ok (.aload_n 0, 1) := by decide +kernel
theorem dX9_loads_21 : decode cX9_loads 21 = .ok (.getfield 7, 3) := by decide +kernel
theorem dX9_loads_24 : decode cX9_loads 24 = .ok (.iload_n 3, 1) := by decide +kernel
theorem dX9_loads_25 : decode cX9_loads 25 = .ok (.invokestatic 179, 3) := by decide +kernel
theorem dX9_loads_28 : decode cX9_loads 28 = .ok (.iconst 0, 1) := by decide +kernel
theorem dX9_loads_29 : decode cX9_loads 29 = .ok (.iadd, 1) := by decide +kernel
theorem dX9_loads_30 : decode cX9_loads 30 = .ok (.laload, 1) := by decide +kernel
theorem dX9_loads_31 : decode cX9_loads 31 = .ok (.lastore, 1) := by decide +kernel
theorem dX9_loads_32 : decode cX9_loads 32 = .ok (.iinc 3 1, 3) := by decide +kernel
theorem dX9_loads_35 : decode cX9_loads 35 = .ok (.goto (-26), 3) := by decide +kernel
theorem dX9_loads_38 : decode cX9_loads 38 = .ok (.iconst 0, 1) := by decide +kernel
theorem dX9_loads_39 : decode cX9_loads 39 = .ok (.istore_n 3, 1) := by decide +kernel
theorem dX9_loads_40 : decode cX9_loads 40 = .ok (.iload_n 3, 1) := by decide +kernel
theorem dX9_loads_41 : decode cX9_loads 41 = .ok (.sipush 7600, 3) := by decide +kernel
theorem dX9_loads_44 : decode cX9_loads 44 = .ok (.if_icmp .ge 16, 3) := by decide +kernel
theorem dX9_loads_47 : decode cX9_loads 47 = .ok (.aload_n 0, 1) := by decide +kernel
theorem dX9_loads_48 : decode cX9_loads 48 = .ok (.getfield 7, 3) := by decide +kernel
theorem dX9_loads_51 : decode cX9_loads 51 = .ok (.iload_n 3, 1) := by decide +kernel
theorem dX9_loads_52 : decode cX9_loads 52 = .ok (.lconst 0, 1) := by decide +kernel
theorem dX9_loads_53 : decode cX9_loads 53 = .ok (.lastore, 1) := by decide +kernel
theorem dX9_loads_54 : decode cX9_loads 54 = .ok (.iinc 3 1, 3) := by decide +kernel
theorem dX9_loads_57 : decode cX9_loads 57 = .ok (.goto (-17), 3) := by decide +kernel
theorem dX9_loads_60 : decode cX9_loads 60 = .ok (.aload_n 0, 1) := by decide +kernel
theorem dX9_loads_61 : decode cX9_loads 61 = .ok (.getfield 7, 3) := by decide +kernel
theorem dX9_loads_64 : decode cX9_loads 64 = .ok (.iconst 1, 1) := by decide +kernel
theorem dX9_loads_65 : decode cX9_loads 65 = .ok (.lload_n 1, 1) := by decide +kernel
theorem dX9_loads_66 : decode cX9_loads 66 = .ok (.lastore, 1) := by decide +kernel
theorem dX9_loads_67 : decode cX9_loads 67 = .ok (.aload_n 0, 1) := by decide +kernel
theorem dX9_loads_68 : decode cX9_loads 68 = .ok (.getfield 7, 3) := by decide +kernel
theorem dX9_loads_71 : decode cX9_loads 71 = .ok (.iconst 2, 1) := by decide +kernel
theorem dX9_loads_72 : decode cX9_loads 72 = .ok (.aload_n 0, 1) := by decide +kernel
theorem dX9_loads_73 : decode cX9_loads 73 = .ok (.getfield 170, 3) := by decide +kernel
theorem dX9_loads_76 : decode cX9_loads 76 = .ok (.i2l, 1) := by decide +kernel
theorem dX9_loads_77 : decode cX9_loads 77 = .ok (.lastore, 1) := by decide +kernel
theorem dX9_loads_78 : decode cX9_loads 78 = .ok (.iconst 0, 1) := by decide +kernel
theorem dX9_loads_79 : decode cX9_loads 79 = .ok (.istore_n 3, 1) := by decide +kernel
theorem dX9_loads_80 : decode cX9_loads 80 = .ok (.iload_n 3, 1) := by decide +kernel
theorem dX9_loads_81 : decode cX9_loads 81 = .ok (.aload_n 0, 1) := by decide +kernel
theorem dX9_loads_82 : decode cX9_loads 82 = .ok (.getfield 170, 3) := by decide +kernel
theorem dX9_loads_85 : decode cX9_loads 85 = .ok (.if_icmp .ge 84, 3) := by decide +kernel
theorem dX9_loads_88 : decode cX9_loads 88 = .ok (.iconst 0, 1) := by decide +kernel
theorem dX9_loads_89 : decode cX9_loads 89 = .ok (.istore 4, 2) := by decide +kernel
theorem dX9_loads_91 : decode cX9_loads 91 = .ok (.iload 4, 2) := by decide +kernel
theorem dX9_loads_93 : decode cX9_loads 93 = .ok (.bipush 12, 2) := by decide +kernel
theorem dX9_loads_95 : decode cX9_loads 95 = .ok (.if_icmp .ge 68, 3) := by decide +kernel
theorem dX9_loads_98 : decode cX9_loads 98 = .ok (.aload_n 0, 1) := by decide +kernel
theorem dX9_loads_99 : decode cX9_loads 99 = .ok (.getfield 7, 3) := by decide +kernel
theorem dX9_loads_102 : decode cX9_loads 102 = .ok (.iload_n 3, 1) := by decide +kernel
theorem dX9_loads_103 : decode cX9_loads 103 = .ok (.invokestatic 176, 3) := by decide +kernel
theorem dX9_loads_106 : decode cX9_loads 106 = .ok (.iload 4, 2) := by decide +kernel
theorem dX9_loads_108 : decode cX9_loads 108 = .ok (.iadd, 1) := by decide +kernel
theorem dX9_loads_109 : decode cX9_loads 109 = .ok (.iload 4, 2) := by decide +kernel
theorem dX9_loads_111 : decode cX9_loads 111 = .ok (.iconst 4, 1) := by decide +kernel
theorem dX9_loads_112 : decode cX9_loads 112 = .ok (.if_icmp .eq 17, 3) := by decide +kernel
theorem dX9_loads_115 : decode cX9_loads 115 = .ok (.iload 4, 2) := by decide +kernel
theorem dX9_loads_117 : decode cX9_loads 117 = .ok (.bipush 6, 2) := by decide +kernel
theorem dX9_loads_119 : decode cX9_loads 119 = .ok (.if_icmp .eq 10, 3) := by decide +kernel
theorem dX9_loads_122 : decode cX9_loads 122 = .ok (.iload 4, 2) := by decide +kernel
theorem dX9_loads_124 : decode cX9_loads 124 = .ok (.bipush 11, 2) := by decide +kernel
theorem dX9_loads_126 : decode cX9_loads 126 = .ok (.if_icmp .ne 7, 3) := by decide +kernel
theorem dX9_loads_129 : decode cX9_loads 129 = .ok (.lconst 0, 1) := by decide +kernel
theorem dX9_loads_130 : decode cX9_loads 130 = .ok (.goto 26, 3) := by decide +kernel
theorem dX9_loads_133 : decode cX9_loads 133 = .ok (.iload 4, 2) := by decide +kernel
theorem dX9_loads_135 : decode cX9_loads 135 = .ok (.iconst 5, 1) := by decide +kernel
theorem dX9_loads_136 : decode cX9_loads 136 = .ok (.if_icmp .ne 7, 3) := by decide +kernel
theorem dX9_loads_139 : decode cX9_loads 139 = .ok (.lconst 1, 1) := by decide +kernel
theorem dX9_loads_140 : decode cX9_loads 140 = .ok (.goto 16, 3) := by decide +kernel
theorem dX9_loads_143 : decode cX9_loads 143 = .ok (.aload_n 0, 1) := by decide +kernel
theorem dX9_loads_144 : decode cX9_loads 144 = .ok (.getfield 33, 3) := by decide +kernel
theorem dX9_loads_147 : decode cX9_loads 147 = .ok (.bipush 12, 2) := by decide +kernel
theorem dX9_loads_149 : decode cX9_loads 149 = .ok (.iload_n 3, 1) := by decide +kernel
theorem dX9_loads_150 : decode cX9_loads 150 = .ok (.imul, 1) := by decide +kernel
theorem dX9_loads_151 : decode cX9_loads 151 = .ok (.iload 4, 2) := by decide +kernel
theorem dX9_loads_153 : decode cX9_loads 153 = .ok (.iadd, 1) := by decide +kernel
theorem dX9_loads_154 : decode cX9_loads 154 = .ok (.iaload, 1) := by decide +kernel
theorem dX9_loads_155 : decode cX9_loads 155 = .ok (.i2l, 1) := by decide +kernel
theorem dX9_loads_156 : decode cX9_loads 156 = .ok (.lastore, 1) := by decide +kernel
theorem dX9_loads_157 : decode cX9_loads 157 = .ok (.iinc 4 1, 3) := by decide +kernel
theorem dX9_loads_160 : decode cX9_loads 160 = .ok (.goto (-69), 3) := by decide +kernel
theorem dX9_loads_163 : decode cX9_loads 163 = .ok (.iinc 3 1, 3) := by decide +kernel
theorem dX9_loads_166 : decode cX9_loads 166 = .ok (.goto (-86), 3) := by decide +kernel
theorem dX9_loads_169 : decode cX9_loads 169 = .ok (.iconst 0, 1) := by decide +kernel
theorem dX9_loads_170 : decode cX9_loads 170 = .ok (.istore_n 3, 1) := by decide +kernel
theorem dX9_loads_171 : decode cX9_loads 171 = .ok (.iload_n 3, 1) := by decide +kernel
theorem dX9_loads_172 : decode cX9_loads 172 = .ok (.aload_n 0, 1) := by decide +kernel
theorem dX9_loads_173 : decode cX9_loads 173 = .ok (.getfield 83, 3) := by decide +kernel
theorem dX9_loads_176 : decode cX9_loads 176 = .ok (.if_icmp .ge 25, 3) := by decide +kernel
theorem dX9_loads_179 : decode cX9_loads 179 = .ok (.aload_n 0, 1) := by decide +kernel
theorem dX9_loads_180 : decode cX9_loads 180 = .ok (.getfield 7, 3) := by decide +kernel
theorem dX9_loads_183 : decode cX9_loads 183 = .ok (.sipush 480, 3) := by decide +kernel
theorem dX9_loads_186 : decode cX9_loads 186 = .ok (.iload_n 3, 1) := by decide +kernel
theorem dX9_loads_187 : decode cX9_loads 187 = .ok (.iadd, 1) := by decide +kernel
theorem dX9_loads_188 : decode cX9_loads 188 = .ok (.aload_n 0, 1) := by decide +kernel
theorem dX9_loads_189 : decode cX9_loads 189 = .ok (.getfield 36, 3) := by decide +kernel
theorem dX9_loads_192 : decode cX9_loads 192 = .ok (.iload_n 3, 1) := by decide +kernel
theorem dX9_loads_193 : decode cX9_loads 193 = .ok (.laload, 1) := by decide +kernel
theorem dX9_loads_194 : decode cX9_loads 194 = .ok (.lastore, 1) := by decide +kernel
theorem dX9_loads_195 : decode cX9_loads 195 = .ok (.iinc 3 1, 3) := by decide +kernel
theorem dX9_loads_198 : decode cX9_loads 198 = .ok (.goto (-27), 3) := by decide +kernel
theorem dX9_loads_201 : decode cX9_loads 201 = .ok (.iconst 0, 1) := by decide +kernel
theorem dX9_loads_202 : decode cX9_loads 202 = .ok (.istore_n 3, 1) := by decide +kernel
theorem dX9_loads_203 : decode cX9_loads 203 = .ok (.aload_n 0, 1) := by decide +kernel
theorem dX9_loads_204 : decode cX9_loads 204 = .ok (.iload_n 3, 1) := by decide +kernel
theorem dX9_loads_205 : decode cX9_loads 205 = .ok (.invokevirtual 182, 3) := by decide +kernel
theorem dX9_loads_208 : decode cX9_loads 208 = .ok (.ifCond .ne 9, 3) := by decide +kernel
theorem dX9_loads_211 : decode cX9_loads 211 = .ok (.iinc 3 1, 3) := by decide +kernel
theorem dX9_loads_214 : decode cX9_loads 214 = .ok (.goto (-11), 3) := by decide +kernel
theorem dX9_loads_217 : decode cX9_loads 217 = .ok (.iconst 0, 1) := by decide +kernel
theorem dX9_loads_218 : decode cX9_loads 218 = .ok (.istore 4, 2) := by decide +kernel
theorem dX9_loads_220 : decode cX9_loads 220 = .ok (.iload 4, 2) := by decide +kernel
theorem dX9_loads_222 : decode cX9_loads 222 = .ok (.bipush 16, 2) := by decide +kernel
theorem dX9_loads_224 : decode cX9_loads 224 = .ok (.if_icmp .ge 42, 3) := by decide +kernel
theorem dX9_loads_227 : decode cX9_loads 227 = .ok (.aload_n 0, 1) := by decide +kernel
theorem dX9_loads_228 : decode cX9_loads 228 = .ok (.getfield 7, 3) := by decide +kernel
theorem dX9_loads_231 : decode cX9_loads 231 = .ok (.iload 4, 2) := by decide +kernel
theorem dX9_loads_233 : decode cX9_loads 233 = .ok (.invokestatic 179, 3) := by decide +kernel
theorem dX9_loads_236 : decode cX9_loads 236 = .ok (.iconst 0, 1) := by decide +kernel
theorem dX9_loads_237 : decode cX9_loads 237 = .ok (.iadd, 1) := by decide +kernel
theorem dX9_loads_238 : decode cX9_loads 238 = .ok (.aload_n 0, 1) := by decide +kernel
theorem dX9_loads_239 : decode cX9_loads 239 = .ok (.getfield 13, 3) := by decide +kernel
theorem dX9_loads_242 : decode cX9_loads 242 = .ok (.iload 4, 2) := by decide +kernel
theorem dX9_loads_244 : decode cX9_loads 244 = .ok (.laload, 1) := by decide +kernel
theorem dX9_loads_245 : decode cX9_loads 245 = .ok (.lastore, 1) := by decide +kernel
theorem dX9_loads_246 : decode cX9_loads 246 = .ok (.aload_n 0, 1) := by decide +kernel
theorem dX9_loads_247 : decode cX9_loads 247 = .ok (.getfield 7, 3) := by decide +kernel
theorem dX9_loads_250 : decode cX9_loads 250 = .ok (.iload 4, 2) := by decide +kernel
theorem dX9_loads_252 : decode cX9_loads 252 = .ok (.invokestatic 179, 3) := by decide +kernel
theorem dX9_loads_255 : decode cX9_loads 255 = .ok (.iconst 1, 1) := by decide +kernel
theorem dX9_loads_256 : decode cX9_loads 256 = .ok (.iadd, 1) := by decide +kernel
theorem dX9_loads_257 : decode cX9_loads 257 = .ok (.iload_n 3, 1) := by decide +kernel
theorem dX9_loads_258 : decode cX9_loads 258 = .ok (.i2l, 1) := by decide +kernel
theorem dX9_loads_259 : decode cX9_loads 259 = .ok (.lastore, 1) := by decide +kernel
theorem dX9_loads_260 : decode cX9_loads 260 = .ok (.iinc 4 1, 3) := by decide +kernel
theorem dX9_loads_263 : decode cX9_loads 263 = .ok (.goto (-43), 3) := by decide +kernel
theorem dX9_loads_266 : decode cX9_loads 266 = .ok (.return_, 1) := by decide +kernel
theorem dX9_type_0 : decode cX9_type 0 = .ok (.aload_n 0, 1) := by decide +kernel
theorem dX9_type_1 : decode cX9_type 1 = .ok (.iconst 0, 1) := by decide +kernel
theorem dX9_type_2 : decode cX9_type 2 = .ok (.putfield 61, 3) := by decide +kernel
theorem dX9_type_5 : decode cX9_type 5 = .ok (.iload_n 1, 1) := by decide +kernel
theorem dX9_type_6 : decode cX9_type 6 = .ok (.i2l, 1) := by decide +kernel
theorem dX9_type_7 : decode cX9_type 7 = .ok (.ldc2_w 185, 3) := by decide +kernel
theorem dX9_type_10 : decode cX9_type 10 = .ok (.ldc2_w 187, 3) := by decide +kernel
theorem dX9_type_13 : decode cX9_type 13 = .ok (.invokestatic 79, 3) := by decide +kernel
theorem dX9_type_16 : decode cX9_type 16 = .ok (.ifCond .ne 9, 3) := by decide +kernel
theorem dX9_type_19 : decode cX9_type 19 = .ok (.aload_n 0, 1) := by decide +kernel
theorem dX9_type_20 : decode cX9_type 20 = .ok (.iconst 1, 1) := by decide +kernel
theorem dX9_type_21 : decode cX9_type 21 = .ok (.invokevirtual 189, 3) := by decide +kernel
theorem dX9_type_24 : decode cX9_type 24 = .ok (.ireturn, 1) := by decide +kernel
theorem dX9_type_25 : decode cX9_type 25 = .ok (.aload_n 0, 1) := by decide +kernel
theorem dX9_type_26 : decode cX9_type 26 = .ok (.getfield 65, 3) := by decide +kernel
theorem dX9_type_29 : decode cX9_type 29 = .ok (.bipush 120, 2) := by decide +kernel
theorem dX9_type_31 : decode cX9_type 31 = .ok (.if_icmp .ne 9, 3) := by decide +kernel
theorem dX9_type_34 : decode cX9_type 34 = .ok (.aload_n 0, 1) := by decide +kernel
theorem dX9_type_35 : decode cX9_type 35 = .ok (.iconst 2, 1) := by decide +kernel
theorem dX9_type_36 : decode cX9_type 36 = .ok (.invokevirtual 189, 3) := by decide +kernel
theorem dX9_type_39 : decode cX9_type 39 = .ok (.ireturn, 1) := by decide +kernel
theorem dX9_type_40 : decode cX9_type 40 = .ok (.aload_n 0, 1) := by decide +kernel
theorem dX9_type_41 : decode cX9_type 41 = .ok (.getfield 23, 3) := by decide +kernel
theorem dX9_type_44 : decode cX9_type 44 = .ok (.aload_n 0, 1) := by decide +kernel
theorem dX9_type_45 : decode cX9_type 45 = .ok (.getfield 65, 3) := by decide +kernel
theorem dX9_type_48 : decode cX9_type 48 = .ok (.iload_n 1, 1) := by decide +kernel
theorem dX9_type_49 : decode cX9_type 49 = .ok (.iastore, 1) := by decide +kernel
theorem dX9_type_50 : decode cX9_type 50 = .ok (.aload_n 0, 1) := by decide +kernel
theorem dX9_type_51 : decode cX9_type 51 = .ok (.dup, 1) := by decide +kernel
theorem dX9_type_52 : decode cX9_type 52 = .ok (.getfield 65, 3) := by decide +kernel
theorem dX9_type_55 : decode cX9_type 55 = .ok (.iconst 1, 1) := by decide +kernel
theorem dX9_type_56 : decode cX9_type 56 = .ok (.iadd, 1) := by decide +kernel
theorem dX9_type_57 : decode cX9_type 57 = .ok (.putfield 65, 3) := by decide +kernel
theorem dX9_type_60 : decode cX9_type 60 = .ok (.aload_n 0, 1) := by decide +kernel
theorem dX9_type_61 : decode cX9_type 61 = .ok (.getfield 65, 3) := by decide +kernel
theorem dX9_type_64 : decode cX9_type 64 = .ok (.ireturn, 1) := by decide +kernel
theorem dX9_clearText_0 : decode cX9_clearText 0 = .ok (.aload_n 0, 1) := by decide +kernel
theorem dX9_clearText_1 : decode cX9_clearText 1 = .ok (.iconst 0, 1) := by decide +kernel
theorem dX9_clearText_2 : decode cX9_clearText 2 = .ok (.putfield 61, 3) := by decide +kernel
theorem dX9_clearText_5 : decode cX9_clearText 5 = .ok (.aload_n 0, 1) := by decide +kernel
theorem dX9_clearText_6 : decode cX9_clearText 6 = .ok (.getfield 65, 3) := by decide +kernel
theorem dX9_clearText_9 : decode cX9_clearText 9 = .ok (.istore_n 1, 1) := by decide +kernel
theorem dX9_clearText_10 : decode cX9_clearText 10 = .ok (.aload_n 0, 1) := by decide +kernel
theorem dX9_clearText_11 : decode cX9_clearText 11 = .ok (.iconst 0, 1) := by decide +kernel
theorem dX9_clearText_12 : decode cX9_clearText 12 = .ok (.putfield 65, 3) := by decide +kernel
theorem dX9_clearText_15 : decode cX9_clearText 15 = .ok (.iload_n 1, 1) := by decide +kernel
theorem dX9_clearText_16 : decode cX9_clearText 16 = .ok (.ireturn, 1) := by decide +kernel
theorem dX9_loadTree_0 : decode cX9_loadTree 0 = .ok (.aload_n 0, 1) := by decide +kernel
theorem dX9_loadTree_1 : decode cX9_loadTree 1 = .ok (.iconst 0, 1) := by decide +kernel
theorem dX9_loadTree_2 : decode cX9_loadTree 2 = .ok (.putfield 61, 3) := by decide +kernel
theorem dX9_loadTree_5 : decode cX9_loadTree 5 = .ok (.aload_n 0, 1) := by decide +kernel
theorem dX9_loadTree_6 : decode cX9_loadTree 6 = .ok (.getfield 27, 3) := by decide +kernel
theorem dX9_loadTree_9 : decode cX9_loadTree 9 = .ok (.iconst 0, 1) := by decide +kernel
theorem dX9_loadTree_10 : decode cX9_loadTree 10 = .ok (.iconst (-1), 1) := by decide +kernel
theorem dX9_loadTree_11 : decode cX9_loadTree 11 = .ok (.iastore, 1) := by decide +kernel
theorem dX9_loadTree_12 : decode cX9_loadTree 12 = .ok (.aload_n 0, 1) := by decide +kernel
theorem dX9_loadTree_13 : decode cX9_loadTree 13 = .ok (.getfield 27, 3) := by decide +kernel
theorem dX9_loadTree_16 : decode cX9_loadTree 16 = .ok (.iconst 1, 1) := by decide +kernel
theorem dX9_loadTree_17 : decode cX9_loadTree 17 = .ok (.iconst (-1), 1) := by decide +kernel
theorem dX9_loadTree_18 : decode cX9_loadTree 18 = .ok (.iastore, 1) := by decide +kernel
theorem dX9_loadTree_19 : decode cX9_loadTree 19 = .ok (.aload_n 0, 1) := by decide +kernel
theorem dX9_loadTree_20 : decode cX9_loadTree 20 = .ok (.getfield 27, 3) := by decide +kernel
theorem dX9_loadTree_23 : decode cX9_loadTree 23 = .ok (.iconst 2, 1) := by decide +kernel
theorem dX9_loadTree_24 : decode cX9_loadTree 24 = .ok (.iconst (-1), 1) := by decide +kernel
theorem dX9_loadTree_25 : decode cX9_loadTree 25 = .ok (.iastore, 1) := by decide +kernel
theorem dX9_loadTree_26 : decode cX9_loadTree 26 = .ok (.aload_n 0, 1) := by decide +kernel
theorem dX9_loadTree_27 : decode cX9_loadTree 27 = .ok (.invokevirtual 192, 3) := by decide +kernel
theorem dX9_loadTree_30 : decode cX9_loadTree 30 = .ok (.aload_n 0, 1) := by decide +kernel
theorem dX9_loadTree_31 : decode cX9_loadTree 31 = .ok (.invokevirtual 54, 3) := by decide +kernel
theorem dX9_loadTree_34 : decode cX9_loadTree 34 = .ok (.istore_n 1, 1) := by decide +kernel
theorem dX9_loadTree_35 : decode cX9_loadTree 35 = .ok (.iload_n 1, 1) := by decide +kernel
theorem dX9_loadTree_36 : decode cX9_loadTree 36 = .ok (.ifCond .lt 12, 3) := by decide +kernel
theorem dX9_loadTree_39 : decode cX9_loadTree 39 = .ok (.aload_n 0, 1) := by decide +kernel
theorem dX9_loadTree_40 : decode cX9_loadTree 40 = .ok (.invokevirtual 58, 3) := by decide +kernel
theorem dX9_loadTree_43 : decode cX9_loadTree 43 = .ok (.aload_n 0, 1) := by decide +kernel
theorem dX9_loadTree_44 : decode cX9_loadTree 44 = .ok (.iconst 0, 1) := by decide +kernel
theorem dX9_loadTree_45 : decode cX9_loadTree 45 = .ok (.putfield 65, 3) := by decide +kernel
theorem dX9_loadTree_48 : decode cX9_loadTree 48 = .ok (.iload_n 1, 1) := by decide +kernel
theorem dX9_loadTree_49 : decode cX9_loadTree 49 = .ok (.ireturn, 1) := by decide +kernel
theorem dX9_loadTemplate_0 : decode cX9_loadTemplate 0 = .ok (.aload_n 0, 1) := by decide +kernel
theorem dX9_loadTemplate_1 : decode cX9_loadTemplate 1 = .ok (.iconst 0, 1) := by decide +kernel
theorem dX9_loadTemplate_2 : decode cX9_loadTemplate 2 = .ok (.putfield 61, 3) := by decide +kernel
theorem dX9_loadTemplate_5 : decode cX9_loadTemplate 5 = .ok (.iload_n 1, 1) := by decide +kernel
theorem dX9_loadTemplate_6 : decode cX9_loadTemplate 6 = .ok (.i2l, 1) := by decide +kernel
theorem dX9_loadTemplate_7 : decode cX9_loadTemplate 7 = .ok (.lconst 0, 1) := by decide +kernel
theorem dX9_loadTemplate_8 : decode cX9_loadTemplate 8 = .ok (.ldc2_w 195, 3) := by decide +kernel
theorem dX9_loadTemplate_11 : decode cX9_loadTemplate 11 = .ok (.invokestatic 79, 3) := by decide +kernel
theorem dX9_loadTemplate_14 : decode cX9_loadTemplate 14 = .ok (.ifCond .ne 9, 3) := by decide +kernel
theorem dX9_loadTemplate_17 : decode cX9_loadTemplate 17 = .ok (.aload_n 0, 1) := by decide +kernel
theorem dX9_loadTemplate_18 : decode cX9_loadTemplate 18 = .ok (.iconst 1, 1) := by decide +kernel
theorem dX9_loadTemplate_19 : decode cX9_loadTemplate 19 = .ok (.invokevirtual 189, 3) := by decide +kernel
theorem dX9_loadTemplate_22 : decode cX9_loadTemplate 22 = .ok (.ireturn, 1) := by decide +kernel
theorem dX9_loadTemplate_23 : decode cX9_loadTemplate 23 = .ok (.aload_n 0, 1) := by decide +kernel
theorem dX9_loadTemplate_24 : decode cX9_loadTemplate 24 = .ok (.iload_n 1, 1) := by decide +kernel
theorem dX9_loadTemplate_25 : decode cX9_loadTemplate 25 = .ok (.invokevirtual 50, 3) := by decide +kernel
theorem dX9_loadTemplate_28 : decode cX9_loadTemplate 28 = .ok (.aload_n 0, 1) := by decide +kernel
theorem dX9_loadTemplate_29 : decode cX9_loadTemplate 29 = .ok (.invokevirtual 54, 3) := by decide +kernel
theorem dX9_loadTemplate_32 : decode cX9_loadTemplate 32 = .ok (.istore_n 2, 1) := by decide +kernel
theorem dX9_loadTemplate_33 : decode cX9_loadTemplate 33 = .ok (.aload_n 0, 1) := by decide +kernel
theorem dX9_loadTemplate_34 : decode cX9_loadTemplate 34 = .ok (.invokevirtual 58, 3) := by decide +kernel
theorem dX9_loadTemplate_37 : decode cX9_loadTemplate 37 = .ok (.iload_n 2, 1) := by decide +kernel
theorem dX9_loadTemplate_38 : decode cX9_loadTemplate 38 = .ok (.ireturn, 1) := by decide +kernel
theorem dX9_errorPosition_0 : decode cX9_errorPosition 0 = .ok (.aload_n 0, 1) := by decide +kernel
theorem dX9_errorPosition_1 : decode cX9_errorPosition 1 = .ok (.iconst 0, 1) := by decide +kernel
theorem dX9_errorPosition_2 : decode cX9_errorPosition 2 = .ok (.putfield 61, 3) := by decide +kernel
theorem dX9_errorPosition_5 : decode cX9_errorPosition 5 = .ok (.iload_n 1, 1) := by decide +kernel
theorem dX9_errorPosition_6 : decode cX9_errorPosition 6 = .ok (.ifCond .ge 9, 3) := by decide +kernel
theorem dX9_errorPosition_9 : decode cX9_errorPosition 9 = .ok (.aload_n 0, 1) := by decide +kernel
theorem dX9_errorPosition_10 : decode cX9_errorPosition 10 = .ok (.iconst 1, 1) := by decide +kernel
theorem dX9_errorPosition_11 : decode cX9_errorPosition 11 = .ok (.invokevirtual 189, 3) := by decide +kernel
theorem dX9_errorPosition_14 : decode cX9_errorPosition 14 = .ok (.ireturn, 1) := by decide +kernel
theorem dX9_errorPosition_15 : decode cX9_errorPosition 15 = .ok (.iload_n 1, 1) := by decide +kernel
theorem dX9_errorPosition_16 : decode cX9_errorPosition 16 = .ok (.iconst 3, 1) := by decide +kernel
theorem dX9_errorPosition_17 : decode cX9_errorPosition 17 = .ok (.if_icmp .ge 12, 3) := by decide +kernel
theorem dX9_errorPosition_20 : decode cX9_errorPosition 20 = .ok (.aload_n 0, 1) := by decide +kernel
theorem dX9_errorPosition_21 : decode cX9_errorPosition 21 = .ok (.getfield 27, 3) := by decide +kernel
theorem dX9_errorPosition_24 : decode cX9_errorPosition 24 = .ok (.iload_n 1, 1) := by decide +kernel
theorem dX9_errorPosition_25 : decode cX9_errorPosition 25 = .ok (.iaload, 1) := by decide +kernel
theorem dX9_errorPosition_26 : decode cX9_errorPosition 26 = .ok (.goto 4, 3) := by decide +kernel
theorem dX9_errorPosition_29 : decode cX9_errorPosition 29 = .ok (.iconst (-1), 1) := by decide +kernel
theorem dX9_errorPosition_30 : decode cX9_errorPosition 30 = .ok (.ireturn, 1) := by decide +kernel
theorem dX9_joined_0 : decode cX9_joined 0 = .ok (.lload_n 0, 1) := by decide +kernel
theorem dX9_joined_1 : decode cX9_joined 1 = .ok (.ldc2_w 86, 3) := by decide +kernel
theorem dX9_joined_4 : decode cX9_joined 4 = .ok (.lcmp, 1) := by decide +kernel
theorem dX9_joined_5 : decode cX9_joined 5 = .ok (.ifCond .ne 8, 3) := by decide +kernel
theorem dX9_joined_8 : decode cX9_joined 8 = .ok (.lload_n 2, 1) := by decide +kernel
theorem dX9_joined_9 : decode cX9_joined 9 = .ok (.lload 4, 2) := by decide +kernel
theorem dX9_joined_11 : decode cX9_joined 11 = .ok (.ladd, 1) := by decide +kernel
theorem dX9_joined_12 : decode cX9_joined 12 = .ok (.lreturn, 1) := by decide +kernel
theorem dX9_joined_13 : decode cX9_joined 13 = .ok (.lload_n 0, 1) := by decide +kernel
theorem dX9_joined_14 : decode cX9_joined 14 = .ok (.ldc2_w 88, 3) := by decide +kernel
theorem dX9_joined_17 : decode cX9_joined 17 = .ok (.lcmp, 1) := by decide +kernel
theorem dX9_joined_18 : decode cX9_joined 18 = .ok (.ifCond .ne 8, 3) := by decide +kernel
theorem dX9_joined_21 : decode cX9_joined 21 = .ok (.lload_n 2, 1) := by decide +kernel
theorem dX9_joined_22 : decode cX9_joined 22 = .ok (.lload 4, 2) := by decide +kernel
theorem dX9_joined_24 : decode cX9_joined 24 = .ok (.lsub, 1) := by decide +kernel
theorem dX9_joined_25 : decode cX9_joined 25 = .ok (.lreturn, 1) := by decide +kernel
theorem dX9_joined_26 : decode cX9_joined 26 = .ok (.lload_n 0, 1) := by decide +kernel
theorem dX9_joined_27 : decode cX9_joined 27 = .ok (.ldc2_w 90, 3) := by decide +kernel
theorem dX9_joined_30 : decode cX9_joined 30 = .ok (.lcmp, 1) := by decide +kernel
theorem dX9_joined_31 : decode cX9_joined 31 = .ok (.ifCond .ne 8, 3) := by decide +kernel
theorem dX9_joined_34 : decode cX9_joined 34 = .ok (.lload_n 2, 1) := by decide +kernel
theorem dX9_joined_35 : decode cX9_joined 35 = .ok (.lload 4, 2) := by decide +kernel
theorem dX9_joined_37 : decode cX9_joined 37 = .ok (.lmul, 1) := by decide +kernel
theorem dX9_joined_38 : decode cX9_joined 38 = .ok (.lreturn, 1) := by decide +kernel
theorem dX9_joined_39 : decode cX9_joined 39 = .ok (.lload_n 0, 1) := by decide +kernel
theorem dX9_joined_40 : decode cX9_joined 40 = .ok (.ldc2_w 92, 3) := by decide +kernel
theorem dX9_joined_43 : decode cX9_joined 43 = .ok (.lcmp, 1) := by decide +kernel
theorem dX9_joined_44 : decode cX9_joined 44 = .ok (.ifCond .ne 19, 3) := by decide +kernel
theorem dX9_joined_47 : decode cX9_joined 47 = .ok (.lload 4, 2) := by decide +kernel
theorem dX9_joined_49 : decode cX9_joined 49 = .ok (.lconst 0, 1) := by decide +kernel
theorem dX9_joined_50 : decode cX9_joined 50 = .ok (.lcmp, 1) := by decide +kernel
theorem dX9_joined_51 : decode cX9_joined 51 = .ok (.ifCond .ne 7, 3) := by decide +kernel
theorem dX9_joined_54 : decode cX9_joined 54 = .ok (.lconst 0, 1) := by decide +kernel
theorem dX9_joined_55 : decode cX9_joined 55 = .ok (.goto 7, 3) := by decide +kernel
theorem dX9_joined_58 : decode cX9_joined 58 = .ok (.lload_n 2, 1) := by decide +kernel
theorem dX9_joined_59 : decode cX9_joined 59 = .ok (.lload 4, 2) := by decide +kernel
theorem dX9_joined_61 : decode cX9_joined 61 = .ok (.ldiv, 1) := by decide +kernel
theorem dX9_joined_62 : decode cX9_joined 62 = .ok (.lreturn, 1) := by decide +kernel
theorem dX9_joined_63 : decode cX9_joined 63 = .ok (.lload_n 0, 1) := by decide +kernel
theorem dX9_joined_64 : decode cX9_joined 64 = .ok (.ldc2_w 96, 3) := by decide +kernel
theorem dX9_joined_67 : decode cX9_joined 67 = .ok (.lcmp, 1) := by decide +kernel
theorem dX9_joined_68 : decode cX9_joined 68 = .ok (.ifCond .ne 19, 3) := by decide +kernel
theorem dX9_joined_71 : decode cX9_joined 71 = .ok (.lload_n 2, 1) := by decide +kernel
theorem dX9_joined_72 : decode cX9_joined 72 = .ok (.lload 4, 2) := by decide +kernel
theorem dX9_joined_74 : decode cX9_joined 74 = .ok (.lcmp, 1) := by decide +kernel
theorem dX9_joined_75 : decode cX9_joined 75 = .ok (.ifCond .le 7, 3) := by decide +kernel
theorem dX9_joined_78 : decode cX9_joined 78 = .ok (.lload_n 2, 1) := by decide +kernel
theorem dX9_joined_79 : decode cX9_joined 79 = .ok (.goto 21, 3) := by decide +kernel
theorem dX9_joined_82 : decode cX9_joined 82 = .ok (.lload 4, 2) := by decide +kernel
theorem dX9_joined_84 : decode cX9_joined 84 = .ok (.goto 16, 3) := by decide +kernel
theorem dX9_joined_87 : decode cX9_joined 87 = .ok (.lload_n 2, 1) := by decide +kernel
theorem dX9_joined_88 : decode cX9_joined 88 = .ok (.lload 4, 2) := by decide +kernel
theorem dX9_joined_90 : decode cX9_joined 90 = .ok (.lcmp, 1) := by decide +kernel
theorem dX9_joined_91 : decode cX9_joined 91 = .ok (.ifCond .ge 7, 3) := by decide +kernel
theorem dX9_joined_94 : decode cX9_joined 94 = .ok (.lload_n 2, 1) := by decide +kernel
theorem dX9_joined_95 : decode cX9_joined 95 = .ok (.goto 5, 3) := by decide +kernel
theorem dX9_joined_98 : decode cX9_joined 98 = .ok (.lload 4, 2) := by decide +kernel
theorem dX9_joined_100 : decode cX9_joined 100 = .ok (.lreturn, 1) := by decide +kernel
theorem dX9_worked_0 : decode cX9_worked 0 = .ok (.iconst 0, 1) := by decide +kernel
theorem dX9_worked_1 : decode cX9_worked 1 = .ok (.istore 5, 2) := by decide +kernel
theorem dX9_worked_3 : decode cX9_worked 3 = .ok (.lload_n 1, 1) := by decide +kernel
theorem dX9_worked_4 : decode cX9_worked 4 = .ok (.l2i, 1) := by decide +kernel
theorem dX9_worked_5 : decode cX9_worked 5 = .ok (.istore 6, 2) := by decide +kernel
theorem dX9_worked_7 : decode cX9_worked 7 = .ok (.iload 6, 2) := by decide +kernel
theorem dX9_worked_9 : decode cX9_worked 9 = .ok (.i2l, 1) := by decide +kernel
theorem dX9_worked_10 : decode cX9_worked 10 = .ok (.lload_n 1, 1) := by decide +kernel
theorem dX9_worked_11 : decode cX9_worked 11 = .ok (.lload_n 3, 1) := by decide +kernel
theorem dX9_worked_12 : decode cX9_worked 12 = .ok (.ladd, 1) := by decide +kernel
theorem dX9_worked_13 : decode cX9_worked 13 = .ok (.lcmp, 1) := by decide +kernel
theorem dX9_worked_14 : decode cX9_worked 14 = .ok (.ifCond .ge 144, 3) := by decide +kernel
theorem dX9_worked_17 : decode cX9_worked 17 = .ok (.aload_n 0, 1) := by decide +kernel
theorem dX9_worked_18 : decode cX9_worked 18 = .ok (.getfield 7, 3) := by decide +kernel
theorem dX9_worked_21 : decode cX9_worked 21 = .ok (.sipush 480, 3) := by decide +kernel
theorem dX9_worked_24 : decode cX9_worked 24 = .ok (.iload 6, 2) := by decide +kernel
theorem dX9_worked_26 : decode cX9_worked 26 = .ok (.iadd, 1) := by decide +kernel
theorem dX9_worked_27 : decode cX9_worked 27 = .ok (.laload, 1) := by decide +kernel
theorem dX9_worked_28 : decode cX9_worked 28 = .ok (.lstore 7, 2) := by decide +kernel
theorem dX9_worked_30 : decode cX9_worked 30 = .ok (.lload 7, 2) := by decide +kernel
theorem dX9_worked_32 : decode cX9_worked 32 = .ok (.lconst 0, 1) := by decide +kernel
theorem dX9_worked_33 : decode cX9_worked 33 = .ok (.lcmp, 1) := by decide +kernel
theorem dX9_worked_34 : decode cX9_worked 34 = .ok (.ifCond .lt 18, 3) := by decide +kernel
theorem dX9_worked_37 : decode cX9_worked 37 = .ok (.aload_n 0, 1) := by decide +kernel
theorem dX9_worked_38 : decode cX9_worked 38 = .ok (.getfield 42, 3) := by decide +kernel
theorem dX9_worked_41 : decode cX9_worked 41 = .ok (.iload 5, 2) := by decide +kernel
theorem dX9_worked_43 : decode cX9_worked 43 = .ok (.lload 7, 2) := by decide +kernel
theorem dX9_worked_45 : decode cX9_worked 45 = .ok (.lastore, 1) := by decide +kernel
theorem dX9_worked_46 : decode cX9_worked 46 = .ok (.iinc 5 1, 3) := by decide +kernel
theorem dX9_worked_49 : decode cX9_worked 49 = .ok (.goto 103, 3) := by decide +kernel
theorem dX9_worked_52 : decode cX9_worked 52 = .ok (.lload 7, 2) := by decide +kernel
theorem dX9_worked_54 : decode cX9_worked 54 = .ok (.ldc2_w 132, 3) := by decide +kernel
theorem dX9_worked_57 : decode cX9_worked 57 = .ok (.lcmp, 1) := by decide +kernel
theorem dX9_worked_58 : decode cX9_worked 58 = .ok (.ifCond .gt 28, 3) := by decide +kernel
theorem dX9_worked_61 : decode cX9_worked 61 = .ok (.aload_n 0, 1) := by decide +kernel
theorem dX9_worked_62 : decode cX9_worked 62 = .ok (.getfield 42, 3) := by decide +kernel
theorem dX9_worked_65 : decode cX9_worked 65 = .ok (.iload 5, 2) := by decide +kernel
theorem dX9_worked_67 : decode cX9_worked 67 = .ok (.aload_n 0, 1) := by decide +kernel
theorem dX9_worked_68 : decode cX9_worked 68 = .ok (.getfield 45, 3) := by decide +kernel
theorem dX9_worked_71 : decode cX9_worked 71 = .ok (.ldc2_w 132, 3) := by decide +kernel
theorem dX9_worked_74 : decode cX9_worked 74 = .ok (.lload 7, 2) := by decide +kernel
theorem dX9_worked_76 : decode cX9_worked 76 = .ok (.lsub, 1) := by decide +kernel
theorem dX9_worked_77 : decode cX9_worked 77 = .ok (.l2i, 1) := by decide +kernel
theorem dX9_worked_78 : decode cX9_worked 78 = .ok (.laload, 1) := by decide +kernel
theorem dX9_worked_79 : decode cX9_worked 79 = .ok (.lastore, 1) := by decide +kernel
theorem dX9_worked_80 : decode cX9_worked 80 = .ok (.iinc 5 1, 3) := by decide +kernel
theorem dX9_worked_83 : decode cX9_worked 83 = .ok (.goto 69, 3) := by decide +kernel
theorem dX9_worked_86 : decode cX9_worked 86 = .ok (.lload 7, 2) := by decide +kernel
theorem dX9_worked_88 : decode cX9_worked 88 = .ok (.ldc2_w 94, 3) := by decide +kernel
theorem dX9_worked_91 : decode cX9_worked 91 = .ok (.lcmp, 1) := by decide +kernel
theorem dX9_worked_92 : decode cX9_worked 92 = .ok (.ifCond .ne 25, 3) := by decide +kernel
theorem dX9_worked_95 : decode cX9_worked 95 = .ok (.aload_n 0, 1) := by decide +kernel
theorem dX9_worked_96 : decode cX9_worked 96 = .ok (.getfield 42, 3) := by decide +kernel
theorem dX9_worked_99 : decode cX9_worked 99 = .ok (.iload 5, 2) := by decide +kernel
theorem dX9_worked_101 : decode cX9_worked 101 = .ok (.iconst 1, 1) := by decide +kernel
theorem dX9_worked_102 : decode cX9_worked 102 = .ok (.isub, 1) := by decide +kernel
theorem dX9_worked_103 : decode cX9_worked 103 = .ok (.aload_n 0, 1) := by decide +kernel
theorem dX9_worked_104 : decode cX9_worked 104 = .ok (.getfield 42, 3) := by decide +kernel
theorem dX9_worked_107 : decode cX9_worked 107 = .ok (.iload 5, 2) := by decide +kernel
theorem dX9_worked_109 : decode cX9_worked 109 = .ok (.iconst 1, 1) := by decide +kernel
theorem dX9_worked_110 : decode cX9_worked 110 = .ok (.isub, 1) := by decide +kernel
theorem dX9_worked_111 : decode cX9_worked 111 = .ok (.laload, 1) := by decide +kernel
theorem dX9_worked_112 : decode cX9_worked 112 = .ok (.lneg, 1) := by decide +kernel
theorem dX9_worked_113 : decode cX9_worked 113 = .ok (.lastore, 1) := by decide +kernel
theorem dX9_worked_114 : decode cX9_worked 114 = .ok (.goto 38, 3) := by decide +kernel
theorem dX9_worked_117 : decode cX9_worked 117 = .ok (.aload_n 0, 1) := by decide +kernel
theorem dX9_worked_118 : decode cX9_worked 118 = .ok (.getfield 42, 3) := by decide +kernel
theorem dX9_worked_121 : decode cX9_worked 121 = .ok (.iload 5, 2) := by decide +kernel
theorem dX9_worked_123 : decode cX9_worked 123 = .ok (.iconst 2, 1) := by decide +kernel
theorem dX9_worked_124 : decode cX9_worked 124 = .ok (.isub, 1) := by decide +kernel
theorem dX9_worked_125 : decode cX9_worked 125 = .ok (.lload 7, 2) := by decide +kernel
theorem dX9_worked_127 : decode cX9_worked 127 = .ok (.aload_n 0, 1) := by decide +kernel
theorem dX9_worked_128 : decode cX9_worked 128 = .ok (.getfield 42, 3) := by decide +kernel
theorem dX9_worked_131 : decode cX9_worked 131 = .ok (.iload 5, 2) := by decide +kernel
theorem dX9_worked_133 : decode cX9_worked 133 = .ok (.iconst 2, 1) := by decide +kernel
theorem dX9_worked_134 : decode cX9_worked 134 = .ok (.isub, 1) := by decide +kernel
theorem dX9_worked_135 : decode cX9_worked 135 = .ok (.laload, 1) := by decide +kernel
theorem dX9_worked_136 : decode cX9_worked 136 = .ok (.aload_n 0, 1) := by decide +kernel
theorem dX9_worked_137 : decode cX9_worked 137 = .ok (.getfield 42, 3) := by decide +kernel
theorem dX9_worked_140 : decode cX9_worked 140 = .ok (.iload 5, 2) := by decide +kernel
theorem dX9_worked_142 : decode cX9_worked 142 = .ok (.iconst 1, 1) := by decide +kernel
theorem dX9_worked_143 : decode cX9_worked 143 = .ok (.isub, 1) := by decide +kernel
theorem dX9_worked_144 : decode cX9_worked 144 = .ok (.laload, 1) := by decide +kernel
theorem dX9_worked_145 : decode cX9_worked 145 = .ok (.invokestatic 197, 3) := by decide +kernel
theorem dX9_worked_148 : decode cX9_worked 148 = .ok (.lastore, 1) := by decide +kernel
theorem dX9_worked_149 : decode cX9_worked 149 = .ok (.iinc 5 (-1), 3) := by decide +kernel
theorem dX9_worked_152 : decode cX9_worked 152 = .ok (.iinc 6 1, 3) := by decide +kernel
theorem dX9_worked_155 : decode cX9_worked 155 = .ok (.goto (-148), 3) := by decide +kernel
theorem dX9_worked_158 : decode cX9_worked 158 = .ok (.aload_n 0, 1) := by decide +kernel
theorem dX9_worked_159 : decode cX9_worked 159 = .ok (.getfield 42, 3) := by decide +kernel
theorem dX9_worked_162 : decode cX9_worked 162 = .ok (.iconst 0, 1) := by decide +kernel
theorem dX9_worked_163 : decode cX9_worked 163 = .ok (.laload, 1) := by decide +kernel
theorem dX9_worked_164 : decode cX9_worked 164 = .ok (.lreturn, 1) := by decide +kernel
theorem dX9_prepares_0 : decode cX9_prepares 0 = .ok (.aload_n 0, 1) := by decide +kernel
theorem dX9_prepares_1 : decode cX9_prepares 1 = .ok (.getfield 45, 3) := by decide +kernel
theorem dX9_prepares_4 : decode cX9_prepares 4 = .ok (.iconst 3, 1) := by decide +kernel
theorem dX9_prepares_5 : decode cX9_prepares 5 = .ok (.iload_n 2, 1) := by decide +kernel
theorem dX9_prepares_6 : decode cX9_prepares 6 = .ok (.i2l, 1) := by decide +kernel
theorem dX9_prepares_7 : decode cX9_prepares 7 = .ok (.lastore, 1) := by decide +kernel
theorem dX9_prepares_8 : decode cX9_prepares 8 = .ok (.aload_n 0, 1) := by decide +kernel
theorem dX9_prepares_9 : decode cX9_prepares 9 = .ok (.getfield 45, 3) := by decide +kernel
theorem dX9_prepares_12 : decode cX9_prepares 12 = .ok (.iconst 4, 1) := by decide +kernel
theorem dX9_prepares_13 : decode cX9_prepares 13 = .ok (.lload_n 3, 1) := by decide +kernel
theorem dX9_prepares_14 : decode cX9_prepares 14 = .ok (.lastore, 1) := by decide +kernel
theorem dX9_prepares_15 : decode cX9_prepares 15 = .ok (.aload_n 0, 1) := by decide +kernel
theorem dX9_prepares_16 : decode cX9_prepares 16 = .ok (.getfield 45, 3) := by decide +kernel
theorem dX9_prepares_19 : decode cX9_prepares 19 = .ok (.iconst 5, 1) := by decide +kernel
theorem dX9_prepares_20 : decode cX9_prepares 20 = .ok (.aload_n 0, 1) := by decide +kernel
theorem dX9_prepares_21 : decode cX9_prepares 21 = .ok (.getfield 7, 3) := by decide +kernel
theorem dX9_prepares_24 : decode cX9_prepares 24 = .ok (.sipush 280, 3) := by decide +kernel
theorem dX9_prepares_27 : decode cX9_prepares 27 = .ok (.bipush 16, 2) := by decide +kernel
theorem dX9_prepares_29 : decode cX9_prepares 29 = .ok (.iload_n 1, 1) := by decide +kernel
theorem dX9_prepares_30 : decode cX9_prepares 30 = .ok (.imul, 1) := by decide +kernel
theorem dX9_prepares_31 : decode cX9_prepares 31 = .ok (.iadd, 1) := by decide +kernel
theorem dX9_prepares_32 : decode cX9_prepares 32 = .ok (.iload_n 2, 1) := by decide +kernel
theorem dX9_prepares_33 : decode cX9_prepares 33 = .ok (.iadd, 1) := by decide +kernel
theorem dX9_prepares_34 : decode cX9_prepares 34 = .ok (.laload, 1) := by decide +kernel
theorem dX9_prepares_35 : decode cX9_prepares 35 = .ok (.lastore, 1) := by decide +kernel
theorem dX9_prepares_36 : decode cX9_prepares 36 = .ok (.aload_n 0, 1) := by decide +kernel
theorem dX9_prepares_37 : decode cX9_prepares 37 = .ok (.getfield 45, 3) := by decide +kernel
theorem dX9_prepares_40 : decode cX9_prepares 40 = .ok (.bipush 6, 2) := by decide +kernel
theorem dX9_prepares_42 : decode cX9_prepares 42 = .ok (.lload 5, 2) := by decide +kernel
theorem dX9_prepares_44 : decode cX9_prepares 44 = .ok (.lastore, 1) := by decide +kernel
theorem dX9_prepares_45 : decode cX9_prepares 45 = .ok (.aload_n 0, 1) := by decide +kernel
theorem dX9_prepares_46 : decode cX9_prepares 46 = .ok (.getfield 45, 3) := by decide +kernel
theorem dX9_prepares_49 : decode cX9_prepares 49 = .ok (.bipush 7, 2) := by decide +kernel
theorem dX9_prepares_51 : decode cX9_prepares 51 = .ok (.aload_n 0, 1) := by decide +kernel
theorem dX9_prepares_52 : decode cX9_prepares 52 = .ok (.getfield 7, 3) := by decide +kernel
theorem dX9_prepares_55 : decode cX9_prepares 55 = .ok (.iload_n 1, 1) := by decide +kernel
theorem dX9_prepares_56 : decode cX9_prepares 56 = .ok (.invokestatic 176, 3) := by decide +kernel
theorem dX9_prepares_59 : decode cX9_prepares 59 = .ok (.bipush 6, 2) := by decide +kernel
theorem dX9_prepares_61 : decode cX9_prepares 61 = .ok (.iadd, 1) := by decide +kernel
theorem dX9_prepares_62 : decode cX9_prepares 62 = .ok (.laload, 1) := by decide +kernel
theorem dX9_prepares_63 : decode cX9_prepares 63 = .ok (.lastore, 1) := by decide +kernel
theorem dX9_prepares_64 : decode cX9_prepares 64 = .ok (.aload_n 0, 1) := by decide +kernel
theorem dX9_prepares_65 : decode cX9_prepares 65 = .ok (.getfield 45, 3) := by decide +kernel
theorem dX9_prepares_68 : decode cX9_prepares 68 = .ok (.bipush 8, 2) := by decide +kernel
theorem dX9_prepares_70 : decode cX9_prepares 70 = .ok (.aload_n 0, 1) := by decide +kernel
theorem dX9_prepares_71 : decode cX9_prepares 71 = .ok (.getfield 7, 3) := by decide +kernel
theorem dX9_prepares_74 : decode cX9_prepares 74 = .ok (.iload_n 1, 1) := by decide +kernel
theorem dX9_prepares_75 : decode cX9_prepares 75 = .ok (.invokestatic 176, 3) := by decide +kernel
theorem dX9_prepares_78 : decode cX9_prepares 78 = .ok (.bipush 11, 2) := by decide +kernel
theorem dX9_prepares_80 : decode cX9_prepares 80 = .ok (.iadd, 1) := by decide +kernel
theorem dX9_prepares_81 : decode cX9_prepares 81 = .ok (.laload, 1) := by decide +kernel
theorem dX9_prepares_82 : decode cX9_prepares 82 = .ok (.lastore, 1) := by decide +kernel
theorem dX9_prepares_83 : decode cX9_prepares 83 = .ok (.return_, 1) := by decide +kernel
theorem dX9_takesPacket_0 : decode cX9_takesPacket 0 = .ok (.aload_n 0, 1) := by decide +kernel
theorem dX9_takesPacket_1 : decode cX9_takesPacket 1 = .ok (.getfield 45, 3) := by decide +kernel
theorem dX9_takesPacket_4 : decode cX9_takesPacket 4 = .ok (.iconst 0, 1) := by decide +kernel
theorem dX9_takesPacket_5 : decode cX9_takesPacket 5 = .ok (.aload_n 0, 1) := by decide +kernel
theorem dX9_takesPacket_6 : decode cX9_takesPacket 6 = .ok (.getfield 7, 3) := by decide +kernel
theorem dX9_takesPacket_9 : decode cX9_takesPacket 9 = .ok (.iload_n 1, 1) := by decide +kernel
theorem dX9_takesPacket_10 : decode cX9_takesPacket 10 = .ok (.invokestatic 201, 3) := by decide +kernel
theorem dX9_takesPacket_13 : decode cX9_takesPacket 13 = .ok (.iconst 2, 1) := by decide +kernel
theorem dX9_takesPacket_14 : decode cX9_takesPacket 14 = .ok (.iadd, 1) := by decide +kernel
theorem dX9_takesPacket_15 : decode cX9_takesPacket 15 = .ok (.laload, 1) := by decide +kernel
theorem dX9_takesPacket_16 : decode cX9_takesPacket 16 = .ok (.lastore, 1) := by decide +kernel
theorem dX9_takesPacket_17 : decode cX9_takesPacket 17 = .ok (.aload_n 0, 1) := by decide +kernel
theorem dX9_takesPacket_18 : decode cX9_takesPacket 18 = .ok (.getfield 45, 3) := by decide +kernel
theorem dX9_takesPacket_21 : decode cX9_takesPacket 21 = .ok (.iconst 1, 1) := by decide +kernel
theorem dX9_takesPacket_22 : decode cX9_takesPacket 22 = .ok (.aload_n 0, 1) := by decide +kernel
theorem dX9_takesPacket_23 : decode cX9_takesPacket 23 = .ok (.getfield 7, 3) := by decide +kernel
theorem dX9_takesPacket_26 : decode cX9_takesPacket 26 = .ok (.iload_n 1, 1) := by decide +kernel
theorem dX9_takesPacket_27 : decode cX9_takesPacket 27 = .ok (.invokestatic 201, 3) := by decide +kernel
theorem dX9_takesPacket_30 : decode cX9_takesPacket 30 = .ok (.iconst 1, 1) := by decide +kernel
theorem dX9_takesPacket_31 : decode cX9_takesPacket 31 = .ok (.iadd, 1) := by decide +kernel
theorem dX9_takesPacket_32 : decode cX9_takesPacket 32 = .ok (.laload, 1) := by decide +kernel
theorem dX9_takesPacket_33 : decode cX9_takesPacket 33 = .ok (.lastore, 1) := by decide +kernel
theorem dX9_takesPacket_34 : decode cX9_takesPacket 34 = .ok (.aload_n 0, 1) := by decide +kernel
theorem dX9_takesPacket_35 : decode cX9_takesPacket 35 = .ok (.getfield 45, 3) := by decide +kernel
theorem dX9_takesPacket_38 : decode cX9_takesPacket 38 = .ok (.iconst 2, 1) := by decide +kernel
theorem dX9_takesPacket_39 : decode cX9_takesPacket 39 = .ok (.aload_n 0, 1) := by decide +kernel
theorem dX9_takesPacket_40 : decode cX9_takesPacket 40 = .ok (.getfield 7, 3) := by decide +kernel
theorem dX9_takesPacket_43 : decode cX9_takesPacket 43 = .ok (.iload_n 1, 1) := by decide +kernel
theorem dX9_takesPacket_44 : decode cX9_takesPacket 44 = .ok (.invokestatic 201, 3) := by decide +kernel
theorem dX9_takesPacket_47 : decode cX9_takesPacket 47 = .ok (.iconst 4, 1) := by decide +kernel
theorem dX9_takesPacket_48 : decode cX9_takesPacket 48 = .ok (.iadd, 1) := by decide +kernel
theorem dX9_takesPacket_49 : decode cX9_takesPacket 49 = .ok (.laload, 1) := by decide +kernel
theorem dX9_takesPacket_50 : decode cX9_takesPacket 50 = .ok (.lastore, 1) := by decide +kernel
theorem dX9_takesPacket_51 : decode cX9_takesPacket 51 = .ok (.return_, 1) := by decide +kernel
theorem dX9_enters_0 : decode cX9_enters 0 = .ok (.aload_n 0, 1) := by decide +kernel
theorem dX9_enters_1 : decode cX9_enters 1 = .ok (.iload 6, 2) := by decide +kernel
theorem dX9_enters_3 : decode cX9_enters 3 = .ok (.invokevirtual 204, 3) := by decide +kernel
theorem dX9_enters_6 : decode cX9_enters 6 = .ok (.aload_n 0, 1) := by decide +kernel
theorem dX9_enters_7 : decode cX9_enters 7 = .ok (.iload_n 1, 1) := by decide +kernel
theorem dX9_enters_8 : decode cX9_enters 8 = .ok (.iload_n 3, 1) := by decide +kernel
theorem dX9_enters_9 : decode cX9_enters 9 = .ok (.lload 4, 2) := by decide +kernel
theorem dX9_enters_11 : decode cX9_enters 11 = .ok (.lload 7, 2) := by decide +kernel
theorem dX9_enters_13 : decode cX9_enters 13 = .ok (.invokevirtual 207, 3) := by decide +kernel
theorem dX9_enters_16 : decode cX9_enters 16 = .ok (.aload_n 0, 1) := by decide +kernel
theorem dX9_enters_17 : decode cX9_enters 17 = .ok (.aload_n 0, 1) := by decide +kernel
theorem dX9_enters_18 : decode cX9_enters 18 = .ok (.getfield 7, 3) := by decide +kernel
theorem dX9_enters_21 : decode cX9_enters 21 = .ok (.iload_n 1, 1) := by decide +kernel
theorem dX9_enters_22 : decode cX9_enters 22 = .ok (.invokestatic 176, 3) := by decide +kernel
theorem dX9_enters_25 : decode cX9_enters 25 = .ok (.bipush 7, 2) := by decide +kernel
theorem dX9_enters_27 : decode cX9_enters 27 = .ok (.iadd, 1) := by decide +kernel
theorem dX9_enters_28 : decode cX9_enters 28 = .ok (.laload, 1) := by decide +kernel
theorem dX9_enters_29 : decode cX9_enters 29 = .ok (.aload_n 0, 1) := by decide +kernel
theorem dX9_enters_30 : decode cX9_enters 30 = .ok (.getfield 7, 3) := by decide +kernel
theorem dX9_enters_33 : decode cX9_enters 33 = .ok (.iload_n 1, 1) := by decide +kernel
theorem dX9_enters_34 : decode cX9_enters 34 = .ok (.invokestatic 176, 3) := by decide +kernel
theorem dX9_enters_37 : decode cX9_enters 37 = .ok (.bipush 8, 2) := by decide +kernel
theorem dX9_enters_39 : decode cX9_enters 39 = .ok (.iadd, 1) := by decide +kernel
theorem dX9_enters_40 : decode cX9_enters 40 = .ok (.laload, 1) := by decide +kernel
theorem dX9_enters_41 : decode cX9_enters 41 = .ok (.invokevirtual 211, 3) := by decide +kernel
theorem dX9_enters_44 : decode cX9_enters 44 = .ok (.lstore 9, 2) := by decide +kernel
theorem dX9_enters_46 : decode cX9_enters 46 = .ok (.aload_n 0, 1) := by decide +kernel
theorem dX9_enters_47 : decode cX9_enters 47 = .ok (.getfield 7, 3) := by decide +kernel
theorem dX9_enters_50 : decode cX9_enters 50 = .ok (.iload_n 1, 1) := by decide +kernel
theorem dX9_enters_51 : decode cX9_enters 51 = .ok (.invokestatic 176, 3) := by decide +kernel
theorem dX9_enters_54 : decode cX9_enters 54 = .ok (.bipush 10, 2) := by decide +kernel
theorem dX9_enters_56 : decode cX9_enters 56 = .ok (.iadd, 1) := by decide +kernel
theorem dX9_enters_57 : decode cX9_enters 57 = .ok (.laload, 1) := by decide +kernel
theorem dX9_enters_58 : decode cX9_enters 58 = .ok (.lconst 0, 1) := by decide +kernel
