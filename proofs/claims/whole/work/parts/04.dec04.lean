theorem dX9_enters_59 : decode cX9_enters 59 = .ok (.lcmp, 1) := by decide +kernel
theorem dX9_enters_60 : decode cX9_enters 60 = .ok (.ifCond .le 55, 3) := by decide +kernel
theorem dX9_enters_63 : decode cX9_enters 63 = .ok (.aload_n 0, 1) := by decide +kernel
theorem dX9_enters_64 : decode cX9_enters 64 = .ok (.getfield 45, 3) := by decide +kernel
theorem dX9_enters_67 : decode cX9_enters 67 = .ok (.bipush 9, 2) := by decide +kernel
theorem dX9_enters_69 : decode cX9_enters 69 = .ok (.lload 9, 2) := by decide +kernel
theorem dX9_enters_71 : decode cX9_enters 71 = .ok (.lastore, 1) := by decide +kernel
theorem dX9_enters_72 : decode cX9_enters 72 = .ok (.aload_n 0, 1) := by decide +kernel
theorem dX9_enters_73 : decode cX9_enters 73 = .ok (.getfield 7, 3) := by decide +kernel
theorem dX9_enters_76 : decode cX9_enters 76 = .ok (.sipush 280, 3) := by decide +kernel
theorem dX9_enters_79 : decode cX9_enters 79 = .ok (.bipush 16, 2) := by decide +kernel
theorem dX9_enters_81 : decode cX9_enters 81 = .ok (.iload_n 1, 1) := by decide +kernel
theorem dX9_enters_82 : decode cX9_enters 82 = .ok (.imul, 1) := by decide +kernel
theorem dX9_enters_83 : decode cX9_enters 83 = .ok (.iadd, 1) := by decide +kernel
theorem dX9_enters_84 : decode cX9_enters 84 = .ok (.iload_n 3, 1) := by decide +kernel
theorem dX9_enters_85 : decode cX9_enters 85 = .ok (.iadd, 1) := by decide +kernel
theorem dX9_enters_86 : decode cX9_enters 86 = .ok (.aload_n 0, 1) := by decide +kernel
theorem dX9_enters_87 : decode cX9_enters 87 = .ok (.aload_n 0, 1) := by decide +kernel
theorem dX9_enters_88 : decode cX9_enters 88 = .ok (.getfield 7, 3) := by decide +kernel
theorem dX9_enters_91 : decode cX9_enters 91 = .ok (.iload_n 1, 1) := by decide +kernel
theorem dX9_enters_92 : decode cX9_enters 92 = .ok (.invokestatic 176, 3) := by decide +kernel
theorem dX9_enters_95 : decode cX9_enters 95 = .ok (.bipush 9, 2) := by decide +kernel
theorem dX9_enters_97 : decode cX9_enters 97 = .ok (.iadd, 1) := by decide +kernel
theorem dX9_enters_98 : decode cX9_enters 98 = .ok (.laload, 1) := by decide +kernel
theorem dX9_enters_99 : decode cX9_enters 99 = .ok (.aload_n 0, 1) := by decide +kernel
theorem dX9_enters_100 : decode cX9_enters 100 = .ok (.getfield 7, 3) := by decide +kernel
theorem dX9_enters_103 : decode cX9_enters 103 = .ok (.iload_n 1, 1) := by decide +kernel
theorem dX9_enters_104 : decode cX9_enters 104 = .ok (.invokestatic 176, 3) := by decide +kernel
theorem dX9_enters_107 : decode cX9_enters 107 = .ok (.bipush 10, 2) := by decide +kernel
theorem dX9_enters_109 : decode cX9_enters 109 = .ok (.iadd, 1) := by decide +kernel
theorem dX9_enters_110 : decode cX9_enters 110 = .ok (.laload, 1) := by decide +kernel
theorem dX9_enters_111 : decode cX9_enters 111 = .ok (.invokevirtual 211, 3) := by decide +kernel
theorem dX9_enters_114 : decode cX9_enters 114 = .ok (.lastore, 1) := by decide +kernel
theorem dX9_enters_115 : decode cX9_enters 115 = .ok (.iload_n 1, 1) := by decide +kernel
theorem dX9_enters_116 : decode cX9_enters 116 = .ok (.aload_n 0, 1) := by decide +kernel
theorem dX9_enters_117 : decode cX9_enters 117 = .ok (.getfield 7, 3) := by decide +kernel
theorem dX9_enters_120 : decode cX9_enters 120 = .ok (.iload_n 1, 1) := by decide +kernel
theorem dX9_enters_121 : decode cX9_enters 121 = .ok (.invokestatic 176, 3) := by decide +kernel
theorem dX9_enters_124 : decode cX9_enters 124 = .ok (.bipush 11, 2) := by decide +kernel
theorem dX9_enters_126 : decode cX9_enters 126 = .ok (.iadd, 1) := by decide +kernel
theorem dX9_enters_127 : decode cX9_enters 127 = .ok (.laload, 1) := by decide +kernel
theorem dX9_enters_128 : decode cX9_enters 128 = .ok (.l2i, 1) := by decide +kernel
theorem dX9_enters_129 : decode cX9_enters 129 = .ok (.invokestatic 215, 3) := by decide +kernel
theorem dX9_enters_132 : decode cX9_enters 132 = .ok (.istore 11, 2) := by decide +kernel
theorem dX9_enters_134 : decode cX9_enters 134 = .ok (.aload_n 0, 1) := by decide +kernel
theorem dX9_enters_135 : decode cX9_enters 135 = .ok (.getfield 7, 3) := by decide +kernel
theorem dX9_enters_138 : decode cX9_enters 138 = .ok (.iload 11, 2) := by decide +kernel
theorem dX9_enters_140 : decode cX9_enters 140 = .ok (.iconst 0, 1) := by decide +kernel
theorem dX9_enters_141 : decode cX9_enters 141 = .ok (.iadd, 1) := by decide +kernel
theorem dX9_enters_142 : decode cX9_enters 142 = .ok (.iload_n 2, 1) := by decide +kernel
theorem dX9_enters_143 : decode cX9_enters 143 = .ok (.i2l, 1) := by decide +kernel
theorem dX9_enters_144 : decode cX9_enters 144 = .ok (.lastore, 1) := by decide +kernel
theorem dX9_enters_145 : decode cX9_enters 145 = .ok (.aload_n 0, 1) := by decide +kernel
theorem dX9_enters_146 : decode cX9_enters 146 = .ok (.getfield 7, 3) := by decide +kernel
theorem dX9_enters_149 : decode cX9_enters 149 = .ok (.iload 11, 2) := by decide +kernel
theorem dX9_enters_151 : decode cX9_enters 151 = .ok (.iconst 1, 1) := by decide +kernel
theorem dX9_enters_152 : decode cX9_enters 152 = .ok (.iadd, 1) := by decide +kernel
theorem dX9_enters_153 : decode cX9_enters 153 = .ok (.lload 9, 2) := by decide +kernel
theorem dX9_enters_155 : decode cX9_enters 155 = .ok (.lastore, 1) := by decide +kernel
theorem dX9_enters_156 : decode cX9_enters 156 = .ok (.aload_n 0, 1) := by decide +kernel
theorem dX9_enters_157 : decode cX9_enters 157 = .ok (.getfield 7, 3) := by decide +kernel
theorem dX9_enters_160 : decode cX9_enters 160 = .ok (.iload 11, 2) := by decide +kernel
theorem dX9_enters_162 : decode cX9_enters 162 = .ok (.iconst 2, 1) := by decide +kernel
theorem dX9_enters_163 : decode cX9_enters 163 = .ok (.iadd, 1) := by decide +kernel
theorem dX9_enters_164 : decode cX9_enters 164 = .ok (.aload_n 0, 1) := by decide +kernel
theorem dX9_enters_165 : decode cX9_enters 165 = .ok (.getfield 7, 3) := by decide +kernel
theorem dX9_enters_168 : decode cX9_enters 168 = .ok (.iconst 5, 1) := by decide +kernel
theorem dX9_enters_169 : decode cX9_enters 169 = .ok (.laload, 1) := by decide +kernel
theorem dX9_enters_170 : decode cX9_enters 170 = .ok (.lastore, 1) := by decide +kernel
theorem dX9_enters_171 : decode cX9_enters 171 = .ok (.aload_n 0, 1) := by decide +kernel
theorem dX9_enters_172 : decode cX9_enters 172 = .ok (.getfield 7, 3) := by decide +kernel
theorem dX9_enters_175 : decode cX9_enters 175 = .ok (.iload 11, 2) := by decide +kernel
theorem dX9_enters_177 : decode cX9_enters 177 = .ok (.iconst 3, 1) := by decide +kernel
theorem dX9_enters_178 : decode cX9_enters 178 = .ok (.iadd, 1) := by decide +kernel
theorem dX9_enters_179 : decode cX9_enters 179 = .ok (.iload 6, 2) := by decide +kernel
theorem dX9_enters_181 : decode cX9_enters 181 = .ok (.i2l, 1) := by decide +kernel
theorem dX9_enters_182 : decode cX9_enters 182 = .ok (.lastore, 1) := by decide +kernel
theorem dX9_enters_183 : decode cX9_enters 183 = .ok (.aload_n 0, 1) := by decide +kernel
theorem dX9_enters_184 : decode cX9_enters 184 = .ok (.getfield 7, 3) := by decide +kernel
theorem dX9_enters_187 : decode cX9_enters 187 = .ok (.iload_n 1, 1) := by decide +kernel
theorem dX9_enters_188 : decode cX9_enters 188 = .ok (.invokestatic 176, 3) := by decide +kernel
theorem dX9_enters_191 : decode cX9_enters 191 = .ok (.bipush 11, 2) := by decide +kernel
theorem dX9_enters_193 : decode cX9_enters 193 = .ok (.iadd, 1) := by decide +kernel
theorem dX9_enters_194 : decode cX9_enters 194 = .ok (.dup2, 1) := by decide +kernel
theorem dX9_enters_195 : decode cX9_enters 195 = .ok (.laload, 1) := by decide +kernel
theorem dX9_enters_196 : decode cX9_enters 196 = .ok (.lconst 1, 1) := by decide +kernel
theorem dX9_enters_197 : decode cX9_enters 197 = .ok (.ladd, 1) := by decide +kernel
theorem dX9_enters_198 : decode cX9_enters 198 = .ok (.lastore, 1) := by decide +kernel
theorem dX9_enters_199 : decode cX9_enters 199 = .ok (.aload_n 0, 1) := by decide +kernel
theorem dX9_enters_200 : decode cX9_enters 200 = .ok (.getfield 7, 3) := by decide +kernel
theorem dX9_enters_203 : decode cX9_enters 203 = .ok (.iconst 5, 1) := by decide +kernel
theorem dX9_enters_204 : decode cX9_enters 204 = .ok (.dup2, 1) := by decide +kernel
theorem dX9_enters_205 : decode cX9_enters 205 = .ok (.laload, 1) := by decide +kernel
theorem dX9_enters_206 : decode cX9_enters 206 = .ok (.lconst 1, 1) := by decide +kernel
theorem dX9_enters_207 : decode cX9_enters 207 = .ok (.ladd, 1) := by decide +kernel
theorem dX9_enters_208 : decode cX9_enters 208 = .ok (.lastore, 1) := by decide +kernel
theorem dX9_enters_209 : decode cX9_enters 209 = .ok (.return_, 1) := by decide +kernel
theorem dX9_climbs_0 : decode cX9_climbs 0 = .ok (.iload_n 1, 1) := by decide +kernel
theorem dX9_climbs_1 : decode cX9_climbs 1 = .ok (.istore 5, 2) := by decide +kernel
theorem dX9_climbs_3 : decode cX9_climbs 3 = .ok (.iconst 1, 1) := by decide +kernel
theorem dX9_climbs_4 : decode cX9_climbs 4 = .ok (.istore 6, 2) := by decide +kernel
theorem dX9_climbs_6 : decode cX9_climbs 6 = .ok (.iconst 0, 1) := by decide +kernel
theorem dX9_climbs_7 : decode cX9_climbs 7 = .ok (.istore 7, 2) := by decide +kernel
theorem dX9_climbs_9 : decode cX9_climbs 9 = .ok (.iload 7, 2) := by decide +kernel
theorem dX9_climbs_11 : decode cX9_climbs 11 = .ok (.bipush 12, 2) := by decide +kernel
theorem dX9_climbs_13 : decode cX9_climbs 13 = .ok (.if_icmp .ge 85, 3) := by decide +kernel
theorem dX9_climbs_16 : decode cX9_climbs 16 = .ok (.iload 6, 2) := by decide +kernel
theorem dX9_climbs_18 : decode cX9_climbs 18 = .ok (.ifCond .eq 80, 3) := by decide +kernel
theorem dX9_climbs_21 : decode cX9_climbs 21 = .ok (.aload_n 0, 1) := by decide +kernel
theorem dX9_climbs_22 : decode cX9_climbs 22 = .ok (.getfield 7, 3) := by decide +kernel
theorem dX9_climbs_25 : decode cX9_climbs 25 = .ok (.iload 5, 2) := by decide +kernel
theorem dX9_climbs_27 : decode cX9_climbs 27 = .ok (.invokestatic 176, 3) := by decide +kernel
theorem dX9_climbs_30 : decode cX9_climbs 30 = .ok (.iconst 0, 1) := by decide +kernel
theorem dX9_climbs_31 : decode cX9_climbs 31 = .ok (.iadd, 1) := by decide +kernel
theorem dX9_climbs_32 : decode cX9_climbs 32 = .ok (.laload, 1) := by decide +kernel
theorem dX9_climbs_33 : decode cX9_climbs 33 = .ok (.l2i, 1) := by decide +kernel
theorem dX9_climbs_34 : decode cX9_climbs 34 = .ok (.istore 8, 2) := by decide +kernel
theorem dX9_climbs_36 : decode cX9_climbs 36 = .ok (.iload 8, 2) := by decide +kernel
theorem dX9_climbs_38 : decode cX9_climbs 38 = .ok (.ifCond .lt 18, 3) := by decide +kernel
theorem dX9_climbs_41 : decode cX9_climbs 41 = .ok (.aload_n 0, 1) := by decide +kernel
theorem dX9_climbs_42 : decode cX9_climbs 42 = .ok (.iload 5, 2) := by decide +kernel
theorem dX9_climbs_44 : decode cX9_climbs 44 = .ok (.iload_n 2, 1) := by decide +kernel
theorem dX9_climbs_45 : decode cX9_climbs 45 = .ok (.lload_n 3, 1) := by decide +kernel
theorem dX9_climbs_46 : decode cX9_climbs 46 = .ok (.invokevirtual 219, 3) := by decide +kernel
theorem dX9_climbs_49 : decode cX9_climbs 49 = .ok (.ifCond .ne 7, 3) := by decide +kernel
theorem dX9_climbs_52 : decode cX9_climbs 52 = .ok (.iconst 1, 1) := by decide +kernel
theorem dX9_climbs_53 : decode cX9_climbs 53 = .ok (.goto 4, 3) := by decide +kernel
theorem dX9_climbs_56 : decode cX9_climbs 56 = .ok (.iconst 0, 1) := by decide +kernel
theorem dX9_climbs_57 : decode cX9_climbs 57 = .ok (.istore 6, 2) := by decide +kernel
theorem dX9_climbs_59 : decode cX9_climbs 59 = .ok (.iload 6, 2) := by decide +kernel
theorem dX9_climbs_61 : decode cX9_climbs 61 = .ok (.ifCond .eq 31, 3) := by decide +kernel
theorem dX9_climbs_64 : decode cX9_climbs 64 = .ok (.aload_n 0, 1) := by decide +kernel
theorem dX9_climbs_65 : decode cX9_climbs 65 = .ok (.iload 8, 2) := by decide +kernel
theorem dX9_climbs_67 : decode cX9_climbs 67 = .ok (.iload 5, 2) := by decide +kernel
theorem dX9_climbs_69 : decode cX9_climbs 69 = .ok (.iload 5, 2) := by decide +kernel
theorem dX9_climbs_71 : decode cX9_climbs 71 = .ok (.aload_n 0, 1) := by decide +kernel
theorem dX9_climbs_72 : decode cX9_climbs 72 = .ok (.getfield 7, 3) := by decide +kernel
theorem dX9_climbs_75 : decode cX9_climbs 75 = .ok (.iload 5, 2) := by decide +kernel
theorem dX9_climbs_77 : decode cX9_climbs 77 = .ok (.invokestatic 176, 3) := by decide +kernel
theorem dX9_climbs_80 : decode cX9_climbs 80 = .ok (.iconst 5, 1) := by decide +kernel
theorem dX9_climbs_81 : decode cX9_climbs 81 = .ok (.iadd, 1) := by decide +kernel
theorem dX9_climbs_82 : decode cX9_climbs 82 = .ok (.laload, 1) := by decide +kernel
theorem dX9_climbs_83 : decode cX9_climbs 83 = .ok (.iload_n 2, 1) := by decide +kernel
theorem dX9_climbs_84 : decode cX9_climbs 84 = .ok (.lload_n 3, 1) := by decide +kernel
theorem dX9_climbs_85 : decode cX9_climbs 85 = .ok (.invokevirtual 223, 3) := by decide +kernel
theorem dX9_climbs_88 : decode cX9_climbs 88 = .ok (.iload 8, 2) := by decide +kernel
theorem dX9_climbs_90 : decode cX9_climbs 90 = .ok (.istore 5, 2) := by decide +kernel
theorem dX9_climbs_92 : decode cX9_climbs 92 = .ok (.iinc 7 1, 3) := by decide +kernel
theorem dX9_climbs_95 : decode cX9_climbs 95 = .ok (.goto (-86), 3) := by decide +kernel
theorem dX9_climbs_98 : decode cX9_climbs 98 = .ok (.return_, 1) := by decide +kernel
theorem dX9_isHeld_0 : decode cX9_isHeld 0 = .ok (.aload_n 0, 1) := by decide +kernel
theorem dX9_isHeld_1 : decode cX9_isHeld 1 = .ok (.getfield 7, 3) := by decide +kernel
theorem dX9_isHeld_4 : decode cX9_isHeld 4 = .ok (.iload_n 1, 1) := by decide +kernel
theorem dX9_isHeld_5 : decode cX9_isHeld 5 = .ok (.invokestatic 176, 3) := by decide +kernel
theorem dX9_isHeld_8 : decode cX9_isHeld 8 = .ok (.iconst 2, 1) := by decide +kernel
theorem dX9_isHeld_9 : decode cX9_isHeld 9 = .ok (.iadd, 1) := by decide +kernel
theorem dX9_isHeld_10 : decode cX9_isHeld 10 = .ok (.laload, 1) := by decide +kernel
theorem dX9_isHeld_11 : decode cX9_isHeld 11 = .ok (.lstore 5, 2) := by decide +kernel
theorem dX9_isHeld_13 : decode cX9_isHeld 13 = .ok (.lload 5, 2) := by decide +kernel
theorem dX9_isHeld_15 : decode cX9_isHeld 15 = .ok (.lconst 0, 1) := by decide +kernel
theorem dX9_isHeld_16 : decode cX9_isHeld 16 = .ok (.lcmp, 1) := by decide +kernel
theorem dX9_isHeld_17 : decode cX9_isHeld 17 = .ok (.ifCond .ne 5, 3) := by decide +kernel
theorem dX9_isHeld_20 : decode cX9_isHeld 20 = .ok (.iconst 0, 1) := by decide +kernel
theorem dX9_isHeld_21 : decode cX9_isHeld 21 = .ok (.ireturn, 1) := by decide +kernel
theorem dX9_isHeld_22 : decode cX9_isHeld 22 = .ok (.aload_n 0, 1) := by decide +kernel
theorem dX9_isHeld_23 : decode cX9_isHeld 23 = .ok (.getfield 7, 3) := by decide +kernel
theorem dX9_isHeld_26 : decode cX9_isHeld 26 = .ok (.iload_n 1, 1) := by decide +kernel
theorem dX9_isHeld_27 : decode cX9_isHeld 27 = .ok (.invokestatic 176, 3) := by decide +kernel
theorem dX9_isHeld_30 : decode cX9_isHeld 30 = .ok (.iconst 4, 1) := by decide +kernel
theorem dX9_isHeld_31 : decode cX9_isHeld 31 = .ok (.iadd, 1) := by decide +kernel
theorem dX9_isHeld_32 : decode cX9_isHeld 32 = .ok (.laload, 1) := by decide +kernel
theorem dX9_isHeld_33 : decode cX9_isHeld 33 = .ok (.lstore 7, 2) := by decide +kernel
theorem dX9_isHeld_35 : decode cX9_isHeld 35 = .ok (.lload 7, 2) := by decide +kernel
theorem dX9_isHeld_37 : decode cX9_isHeld 37 = .ok (.aload_n 0, 1) := by decide +kernel
theorem dX9_isHeld_38 : decode cX9_isHeld 38 = .ok (.getfield 7, 3) := by decide +kernel
theorem dX9_isHeld_41 : decode cX9_isHeld 41 = .ok (.iload_n 1, 1) := by decide +kernel
theorem dX9_isHeld_42 : decode cX9_isHeld 42 = .ok (.invokestatic 176, 3) := by decide +kernel
theorem dX9_isHeld_45 : decode cX9_isHeld 45 = .ok (.iconst 3, 1) := by decide +kernel
theorem dX9_isHeld_46 : decode cX9_isHeld 46 = .ok (.iadd, 1) := by decide +kernel
theorem dX9_isHeld_47 : decode cX9_isHeld 47 = .ok (.laload, 1) := by decide +kernel
theorem dX9_isHeld_48 : decode cX9_isHeld 48 = .ok (.ldc2_w 227, 3) := by decide +kernel
theorem dX9_isHeld_51 : decode cX9_isHeld 51 = .ok (.lmul, 1) := by decide +kernel
theorem dX9_isHeld_52 : decode cX9_isHeld 52 = .ok (.lload 5, 2) := by decide +kernel
theorem dX9_isHeld_54 : decode cX9_isHeld 54 = .ok (.ldiv, 1) := by decide +kernel
theorem dX9_isHeld_55 : decode cX9_isHeld 55 = .ok (.lsub, 1) := by decide +kernel
theorem dX9_isHeld_56 : decode cX9_isHeld 56 = .ok (.lstore 9, 2) := by decide +kernel
theorem dX9_isHeld_58 : decode cX9_isHeld 58 = .ok (.lload 9, 2) := by decide +kernel
theorem dX9_isHeld_60 : decode cX9_isHeld 60 = .ok (.lload_n 3, 1) := by decide +kernel
theorem dX9_isHeld_61 : decode cX9_isHeld 61 = .ok (.lcmp, 1) := by decide +kernel
theorem dX9_isHeld_62 : decode cX9_isHeld 62 = .ok (.ifCond .le 8, 3) := by decide +kernel
theorem dX9_isHeld_65 : decode cX9_isHeld 65 = .ok (.lload 9, 2) := by decide +kernel
theorem dX9_isHeld_67 : decode cX9_isHeld 67 = .ok (.goto 4, 3) := by decide +kernel
theorem dX9_isHeld_70 : decode cX9_isHeld 70 = .ok (.lload_n 3, 1) := by decide +kernel
theorem dX9_isHeld_71 : decode cX9_isHeld 71 = .ok (.lstore 11, 2) := by decide +kernel
theorem dX9_isHeld_73 : decode cX9_isHeld 73 = .ok (.aload_n 0, 1) := by decide +kernel
theorem dX9_isHeld_74 : decode cX9_isHeld 74 = .ok (.getfield 7, 3) := by decide +kernel
theorem dX9_isHeld_77 : decode cX9_isHeld 77 = .ok (.iload_n 1, 1) := by decide +kernel
theorem dX9_isHeld_78 : decode cX9_isHeld 78 = .ok (.invokestatic 176, 3) := by decide +kernel
theorem dX9_isHeld_81 : decode cX9_isHeld 81 = .ok (.iconst 4, 1) := by decide +kernel
theorem dX9_isHeld_82 : decode cX9_isHeld 82 = .ok (.iadd, 1) := by decide +kernel
theorem dX9_isHeld_83 : decode cX9_isHeld 83 = .ok (.lload 7, 2) := by decide +kernel
theorem dX9_isHeld_85 : decode cX9_isHeld 85 = .ok (.lload_n 3, 1) := by decide +kernel
theorem dX9_isHeld_86 : decode cX9_isHeld 86 = .ok (.lcmp, 1) := by decide +kernel
theorem dX9_isHeld_87 : decode cX9_isHeld 87 = .ok (.ifCond .le 8, 3) := by decide +kernel
theorem dX9_isHeld_90 : decode cX9_isHeld 90 = .ok (.lload 7, 2) := by decide +kernel
theorem dX9_isHeld_92 : decode cX9_isHeld 92 = .ok (.goto 4, 3) := by decide +kernel
theorem dX9_isHeld_95 : decode cX9_isHeld 95 = .ok (.lload_n 3, 1) := by decide +kernel
theorem dX9_isHeld_96 : decode cX9_isHeld 96 = .ok (.aload_n 0, 1) := by decide +kernel
theorem dX9_isHeld_97 : decode cX9_isHeld 97 = .ok (.getfield 7, 3) := by decide +kernel
theorem dX9_isHeld_100 : decode cX9_isHeld 100 = .ok (.iload_n 2, 1) := by decide +kernel
theorem dX9_isHeld_101 : decode cX9_isHeld 101 = .ok (.invokestatic 201, 3) := by decide +kernel
theorem dX9_isHeld_104 : decode cX9_isHeld 104 = .ok (.iconst 1, 1) := by decide +kernel
theorem dX9_isHeld_105 : decode cX9_isHeld 105 = .ok (.iadd, 1) := by decide +kernel
theorem dX9_isHeld_106 : decode cX9_isHeld 106 = .ok (.laload, 1) := by decide +kernel
theorem dX9_isHeld_107 : decode cX9_isHeld 107 = .ok (.ldc2_w 227, 3) := by decide +kernel
theorem dX9_isHeld_110 : decode cX9_isHeld 110 = .ok (.lmul, 1) := by decide +kernel
theorem dX9_isHeld_111 : decode cX9_isHeld 111 = .ok (.lload 5, 2) := by decide +kernel
theorem dX9_isHeld_113 : decode cX9_isHeld 113 = .ok (.ladd, 1) := by decide +kernel
theorem dX9_isHeld_114 : decode cX9_isHeld 114 = .ok (.lconst 1, 1) := by decide +kernel
theorem dX9_isHeld_115 : decode cX9_isHeld 115 = .ok (.lsub, 1) := by decide +kernel
theorem dX9_isHeld_116 : decode cX9_isHeld 116 = .ok (.lload 5, 2) := by decide +kernel
theorem dX9_isHeld_118 : decode cX9_isHeld 118 = .ok (.ldiv, 1) := by decide +kernel
theorem dX9_isHeld_119 : decode cX9_isHeld 119 = .ok (.ladd, 1) := by decide +kernel
theorem dX9_isHeld_120 : decode cX9_isHeld 120 = .ok (.lastore, 1) := by decide +kernel
theorem dX9_isHeld_121 : decode cX9_isHeld 121 = .ok (.lload 11, 2) := by decide +kernel
theorem dX9_isHeld_123 : decode cX9_isHeld 123 = .ok (.lload_n 3, 1) := by decide +kernel
theorem dX9_isHeld_124 : decode cX9_isHeld 124 = .ok (.lcmp, 1) := by decide +kernel
theorem dX9_isHeld_125 : decode cX9_isHeld 125 = .ok (.ifCond .ne 5, 3) := by decide +kernel
theorem dX9_isHeld_128 : decode cX9_isHeld 128 = .ok (.iconst 0, 1) := by decide +kernel
theorem dX9_isHeld_129 : decode cX9_isHeld 129 = .ok (.ireturn, 1) := by decide +kernel
theorem dX9_isHeld_130 : decode cX9_isHeld 130 = .ok (.aload_n 0, 1) := by decide +kernel
theorem dX9_isHeld_131 : decode cX9_isHeld 131 = .ok (.getfield 7, 3) := by decide +kernel
theorem dX9_isHeld_134 : decode cX9_isHeld 134 = .ok (.iconst 4, 1) := by decide +kernel
theorem dX9_isHeld_135 : decode cX9_isHeld 135 = .ok (.laload, 1) := by decide +kernel
theorem dX9_isHeld_136 : decode cX9_isHeld 136 = .ok (.l2i, 1) := by decide +kernel
theorem dX9_isHeld_137 : decode cX9_isHeld 137 = .ok (.invokestatic 229, 3) := by decide +kernel
theorem dX9_isHeld_140 : decode cX9_isHeld 140 = .ok (.istore 13, 2) := by decide +kernel
theorem dX9_isHeld_142 : decode cX9_isHeld 142 = .ok (.aload_n 0, 1) := by decide +kernel
theorem dX9_isHeld_143 : decode cX9_isHeld 143 = .ok (.getfield 7, 3) := by decide +kernel
theorem dX9_isHeld_146 : decode cX9_isHeld 146 = .ok (.iload 13, 2) := by decide +kernel
theorem dX9_isHeld_148 : decode cX9_isHeld 148 = .ok (.iconst 0, 1) := by decide +kernel
theorem dX9_isHeld_149 : decode cX9_isHeld 149 = .ok (.iadd, 1) := by decide +kernel
theorem dX9_isHeld_150 : decode cX9_isHeld 150 = .ok (.lload 11, 2) := by decide +kernel
theorem dX9_isHeld_152 : decode cX9_isHeld 152 = .ok (.lastore, 1) := by decide +kernel
theorem dX9_isHeld_153 : decode cX9_isHeld 153 = .ok (.aload_n 0, 1) := by decide +kernel
theorem dX9_isHeld_154 : decode cX9_isHeld 154 = .ok (.getfield 7, 3) := by decide +kernel
theorem dX9_isHeld_157 : decode cX9_isHeld 157 = .ok (.iload 13, 2) := by decide +kernel
theorem dX9_isHeld_159 : decode cX9_isHeld 159 = .ok (.iconst 1, 1) := by decide +kernel
theorem dX9_isHeld_160 : decode cX9_isHeld 160 = .ok (.iadd, 1) := by decide +kernel
theorem dX9_isHeld_161 : decode cX9_isHeld 161 = .ok (.aload_n 0, 1) := by decide +kernel
theorem dX9_isHeld_162 : decode cX9_isHeld 162 = .ok (.getfield 7, 3) := by decide +kernel
theorem dX9_isHeld_165 : decode cX9_isHeld 165 = .ok (.bipush 6, 2) := by decide +kernel
theorem dX9_isHeld_167 : decode cX9_isHeld 167 = .ok (.laload, 1) := by decide +kernel
theorem dX9_isHeld_168 : decode cX9_isHeld 168 = .ok (.lastore, 1) := by decide +kernel
theorem dX9_isHeld_169 : decode cX9_isHeld 169 = .ok (.aload_n 0, 1) := by decide +kernel
theorem dX9_isHeld_170 : decode cX9_isHeld 170 = .ok (.getfield 7, 3) := by decide +kernel
theorem dX9_isHeld_173 : decode cX9_isHeld 173 = .ok (.iload 13, 2) := by decide +kernel
theorem dX9_isHeld_175 : decode cX9_isHeld 175 = .ok (.iconst 2, 1) := by decide +kernel
theorem dX9_isHeld_176 : decode cX9_isHeld 176 = .ok (.iadd, 1) := by decide +kernel
theorem dX9_isHeld_177 : decode cX9_isHeld 177 = .ok (.iload_n 1, 1) := by decide +kernel
theorem dX9_isHeld_178 : decode cX9_isHeld 178 = .ok (.i2l, 1) := by decide +kernel
theorem dX9_isHeld_179 : decode cX9_isHeld 179 = .ok (.lastore, 1) := by decide +kernel
theorem dX9_isHeld_180 : decode cX9_isHeld 180 = .ok (.aload_n 0, 1) := by decide +kernel
theorem dX9_isHeld_181 : decode cX9_isHeld 181 = .ok (.getfield 7, 3) := by decide +kernel
theorem dX9_isHeld_184 : decode cX9_isHeld 184 = .ok (.iload 13, 2) := by decide +kernel
theorem dX9_isHeld_186 : decode cX9_isHeld 186 = .ok (.iconst 3, 1) := by decide +kernel
theorem dX9_isHeld_187 : decode cX9_isHeld 187 = .ok (.iadd, 1) := by decide +kernel
theorem dX9_isHeld_188 : decode cX9_isHeld 188 = .ok (.iload_n 2, 1) := by decide +kernel
theorem dX9_isHeld_189 : decode cX9_isHeld 189 = .ok (.i2l, 1) := by decide +kernel
theorem dX9_isHeld_190 : decode cX9_isHeld 190 = .ok (.lastore, 1) := by decide +kernel
theorem dX9_isHeld_191 : decode cX9_isHeld 191 = .ok (.aload_n 0, 1) := by decide +kernel
theorem dX9_isHeld_192 : decode cX9_isHeld 192 = .ok (.getfield 7, 3) := by decide +kernel
theorem dX9_isHeld_195 : decode cX9_isHeld 195 = .ok (.iconst 4, 1) := by decide +kernel
theorem dX9_isHeld_196 : decode cX9_isHeld 196 = .ok (.dup2, 1) := by decide +kernel
theorem dX9_isHeld_197 : decode cX9_isHeld 197 = .ok (.laload, 1) := by decide +kernel
theorem dX9_isHeld_198 : decode cX9_isHeld 198 = .ok (.lconst 1, 1) := by decide +kernel
theorem dX9_isHeld_199 : decode cX9_isHeld 199 = .ok (.ladd, 1) := by decide +kernel
theorem dX9_isHeld_200 : decode cX9_isHeld 200 = .ok (.lastore, 1) := by decide +kernel
theorem dX9_isHeld_201 : decode cX9_isHeld 201 = .ok (.aload_n 0, 1) := by decide +kernel
theorem dX9_isHeld_202 : decode cX9_isHeld 202 = .ok (.getfield 7, 3) := by decide +kernel
theorem dX9_isHeld_205 : decode cX9_isHeld 205 = .ok (.bipush 6, 2) := by decide +kernel
theorem dX9_isHeld_207 : decode cX9_isHeld 207 = .ok (.dup2, 1) := by decide +kernel
theorem dX9_isHeld_208 : decode cX9_isHeld 208 = .ok (.laload, 1) := by decide +kernel
theorem dX9_isHeld_209 : decode cX9_isHeld 209 = .ok (.lconst 1, 1) := by decide +kernel
theorem dX9_isHeld_210 : decode cX9_isHeld 210 = .ok (.ladd, 1) := by decide +kernel
theorem dX9_isHeld_211 : decode cX9_isHeld 211 = .ok (.lastore, 1) := by decide +kernel
theorem dX9_isHeld_212 : decode cX9_isHeld 212 = .ok (.iconst 1, 1) := by decide +kernel
theorem dX9_isHeld_213 : decode cX9_isHeld 213 = .ok (.ireturn, 1) := by decide +kernel
theorem dX9_nextHeld_0 : decode cX9_nextHeld 0 = .ok (.iconst (-1), 1) := by decide +kernel
theorem dX9_nextHeld_1 : decode cX9_nextHeld 1 = .ok (.istore_n 1, 1) := by decide +kernel
theorem dX9_nextHeld_2 : decode cX9_nextHeld 2 = .ok (.iconst 0, 1) := by decide +kernel
theorem dX9_nextHeld_3 : decode cX9_nextHeld 3 = .ok (.istore_n 2, 1) := by decide +kernel
theorem dX9_nextHeld_4 : decode cX9_nextHeld 4 = .ok (.iload_n 2, 1) := by decide +kernel
theorem dX9_nextHeld_5 : decode cX9_nextHeld 5 = .ok (.i2l, 1) := by decide +kernel
theorem dX9_nextHeld_6 : decode cX9_nextHeld 6 = .ok (.aload_n 0, 1) := by decide +kernel
theorem dX9_nextHeld_7 : decode cX9_nextHeld 7 = .ok (.getfield 7, 3) := by decide +kernel
theorem dX9_nextHeld_10 : decode cX9_nextHeld 10 = .ok (.iconst 4, 1) := by decide +kernel
theorem dX9_nextHeld_11 : decode cX9_nextHeld 11 = .ok (.laload, 1) := by decide +kernel
theorem dX9_nextHeld_12 : decode cX9_nextHeld 12 = .ok (.lcmp, 1) := by decide +kernel
theorem dX9_nextHeld_13 : decode cX9_nextHeld 13 = .ok (.ifCond .ge 45, 3) := by decide +kernel
theorem dX9_nextHeld_16 : decode cX9_nextHeld 16 = .ok (.iload_n 1, 1) := by decide +kernel
theorem dX9_nextHeld_17 : decode cX9_nextHeld 17 = .ok (.ifCond .lt 29, 3) := by decide +kernel
theorem dX9_nextHeld_20 : decode cX9_nextHeld 20 = .ok (.aload_n 0, 1) := by decide +kernel
theorem dX9_nextHeld_21 : decode cX9_nextHeld 21 = .ok (.getfield 7, 3) := by decide +kernel
theorem dX9_nextHeld_24 : decode cX9_nextHeld 24 = .ok (.iload_n 2, 1) := by decide +kernel
theorem dX9_nextHeld_25 : decode cX9_nextHeld 25 = .ok (.invokestatic 229, 3) := by decide +kernel
theorem dX9_nextHeld_28 : decode cX9_nextHeld 28 = .ok (.iconst 0, 1) := by decide +kernel
theorem dX9_nextHeld_29 : decode cX9_nextHeld 29 = .ok (.iadd, 1) := by decide +kernel
theorem dX9_nextHeld_30 : decode cX9_nextHeld 30 = .ok (.laload, 1) := by decide +kernel
theorem dX9_nextHeld_31 : decode cX9_nextHeld 31 = .ok (.aload_n 0, 1) := by decide +kernel
theorem dX9_nextHeld_32 : decode cX9_nextHeld 32 = .ok (.getfield 7, 3) := by decide +kernel
theorem dX9_nextHeld_35 : decode cX9_nextHeld 35 = .ok (.iload_n 1, 1) := by decide +kernel
theorem dX9_nextHeld_36 : decode cX9_nextHeld 36 = .ok (.invokestatic 229, 3) := by decide +kernel
theorem dX9_nextHeld_39 : decode cX9_nextHeld 39 = .ok (.iconst 0, 1) := by decide +kernel
theorem dX9_nextHeld_40 : decode cX9_nextHeld 40 = .ok (.iadd, 1) := by decide +kernel
theorem dX9_nextHeld_41 : decode cX9_nextHeld 41 = .ok (.laload, 1) := by decide +kernel
theorem dX9_nextHeld_42 : decode cX9_nextHeld 42 = .ok (.lcmp, 1) := by decide +kernel
theorem dX9_nextHeld_43 : decode cX9_nextHeld 43 = .ok (.ifCond .ge 7, 3) := by decide +kernel
theorem dX9_nextHeld_46 : decode cX9_nextHeld 46 = .ok (.iload_n 2, 1) := by decide +kernel
theorem dX9_nextHeld_47 : decode cX9_nextHeld 47 = .ok (.goto 4, 3) := by decide +kernel
theorem dX9_nextHeld_50 : decode cX9_nextHeld 50 = .ok (.iload_n 1, 1) := by decide +kernel
theorem dX9_nextHeld_51 : decode cX9_nextHeld 51 = .ok (.istore_n 1, 1) := by decide +kernel
theorem dX9_nextHeld_52 : decode cX9_nextHeld 52 = .ok (.iinc 2 1, 3) := by decide +kernel
theorem dX9_nextHeld_55 : decode cX9_nextHeld 55 = .ok (.goto (-51), 3) := by decide +kernel
theorem dX9_nextHeld_58 : decode cX9_nextHeld 58 = .ok (.iload_n 1, 1) := by decide +kernel
theorem dX9_nextHeld_59 : decode cX9_nextHeld 59 = .ok (.ireturn, 1) := by decide +kernel
theorem dX9_passes_0 : decode cX9_passes 0 = .ok (.iconst 0, 1) := by decide +kernel
theorem dX9_passes_1 : decode cX9_passes 1 = .ok (.istore_n 3, 1) := by decide +kernel
theorem dX9_passes_2 : decode cX9_passes 2 = .ok (.aload_n 0, 1) := by decide +kernel
theorem dX9_passes_3 : decode cX9_passes 3 = .ok (.invokevirtual 232, 3) := by decide +kernel
theorem dX9_passes_6 : decode cX9_passes 6 = .ok (.istore 4, 2) := by decide +kernel
theorem dX9_passes_8 : decode cX9_passes 8 = .ok (.iload 4, 2) := by decide +kernel
theorem dX9_passes_10 : decode cX9_passes 10 = .ok (.ifCond .lt 181, 3) := by decide +kernel
theorem dX9_passes_13 : decode cX9_passes 13 = .ok (.aload_n 0, 1) := by decide +kernel
theorem dX9_passes_14 : decode cX9_passes 14 = .ok (.getfield 7, 3) := by decide +kernel
theorem dX9_passes_17 : decode cX9_passes 17 = .ok (.iload 4, 2) := by decide +kernel
theorem dX9_passes_19 : decode cX9_passes 19 = .ok (.invokestatic 229, 3) := by decide +kernel
theorem dX9_passes_22 : decode cX9_passes 22 = .ok (.iconst 0, 1) := by decide +kernel
theorem dX9_passes_23 : decode cX9_passes 23 = .ok (.iadd, 1) := by decide +kernel
theorem dX9_passes_24 : decode cX9_passes 24 = .ok (.laload, 1) := by decide +kernel
theorem dX9_passes_25 : decode cX9_passes 25 = .ok (.lload_n 1, 1) := by decide +kernel
theorem dX9_passes_26 : decode cX9_passes 26 = .ok (.lcmp, 1) := by decide +kernel
theorem dX9_passes_27 : decode cX9_passes 27 = .ok (.ifCond .gt 164, 3) := by decide +kernel
theorem dX9_passes_30 : decode cX9_passes 30 = .ok (.aload_n 0, 1) := by decide +kernel
theorem dX9_passes_31 : decode cX9_passes 31 = .ok (.getfield 7, 3) := by decide +kernel
theorem dX9_passes_34 : decode cX9_passes 34 = .ok (.iload 4, 2) := by decide +kernel
theorem dX9_passes_36 : decode cX9_passes 36 = .ok (.invokestatic 229, 3) := by decide +kernel
theorem dX9_passes_39 : decode cX9_passes 39 = .ok (.iconst 0, 1) := by decide +kernel
theorem dX9_passes_40 : decode cX9_passes 40 = .ok (.iadd, 1) := by decide +kernel
theorem dX9_passes_41 : decode cX9_passes 41 = .ok (.laload, 1) := by decide +kernel
theorem dX9_passes_42 : decode cX9_passes 42 = .ok (.lstore 5, 2) := by decide +kernel
theorem dX9_passes_44 : decode cX9_passes 44 = .ok (.aload_n 0, 1) := by decide +kernel
theorem dX9_passes_45 : decode cX9_passes 45 = .ok (.getfield 7, 3) := by decide +kernel
theorem dX9_passes_48 : decode cX9_passes 48 = .ok (.iload 4, 2) := by decide +kernel
theorem dX9_passes_50 : decode cX9_passes 50 = .ok (.invokestatic 229, 3) := by decide +kernel
theorem dX9_passes_53 : decode cX9_passes 53 = .ok (.iconst 2, 1) := by decide +kernel
theorem dX9_passes_54 : decode cX9_passes 54 = .ok (.iadd, 1) := by decide +kernel
theorem dX9_passes_55 : decode cX9_passes 55 = .ok (.laload, 1) := by decide +kernel
theorem dX9_passes_56 : decode cX9_passes 56 = .ok (.l2i, 1) := by decide +kernel
theorem dX9_passes_57 : decode cX9_passes 57 = .ok (.istore 7, 2) := by decide +kernel
theorem dX9_passes_59 : decode cX9_passes 59 = .ok (.aload_n 0, 1) := by decide +kernel
theorem dX9_passes_60 : decode cX9_passes 60 = .ok (.getfield 7, 3) := by decide +kernel
theorem dX9_passes_63 : decode cX9_passes 63 = .ok (.iload 4, 2) := by decide +kernel
theorem dX9_passes_65 : decode cX9_passes 65 = .ok (.invokestatic 229, 3) := by decide +kernel
theorem dX9_passes_68 : decode cX9_passes 68 = .ok (.iconst 3, 1) := by decide +kernel
theorem dX9_passes_69 : decode cX9_passes 69 = .ok (.iadd, 1) := by decide +kernel
theorem dX9_passes_70 : decode cX9_passes 70 = .ok (.laload, 1) := by decide +kernel
theorem dX9_passes_71 : decode cX9_passes 71 = .ok (.l2i, 1) := by decide +kernel
theorem dX9_passes_72 : decode cX9_passes 72 = .ok (.istore 8, 2) := by decide +kernel
theorem dX9_passes_74 : decode cX9_passes 74 = .ok (.aload_n 0, 1) := by decide +kernel
theorem dX9_passes_75 : decode cX9_passes 75 = .ok (.getfield 7, 3) := by decide +kernel
theorem dX9_passes_78 : decode cX9_passes 78 = .ok (.iconst 4, 1) := by decide +kernel
theorem dX9_passes_79 : decode cX9_passes 79 = .ok (.dup2, 1) := by decide +kernel
theorem dX9_passes_80 : decode cX9_passes 80 = .ok (.laload, 1) := by decide +kernel
theorem dX9_passes_81 : decode cX9_passes 81 = .ok (.lconst 1, 1) := by decide +kernel
theorem dX9_passes_82 : decode cX9_passes 82 = .ok (.lsub, 1) := by decide +kernel
theorem dX9_passes_83 : decode cX9_passes 83 = .ok (.lastore, 1) := by decide +kernel
theorem dX9_passes_84 : decode cX9_passes 84 = .ok (.iload 4, 2) := by decide +kernel
theorem dX9_passes_86 : decode cX9_passes 86 = .ok (.invokestatic 229, 3) := by decide +kernel
theorem dX9_passes_89 : decode cX9_passes 89 = .ok (.istore 9, 2) := by decide +kernel
theorem dX9_passes_91 : decode cX9_passes 91 = .ok (.iload 9, 2) := by decide +kernel
theorem dX9_passes_93 : decode cX9_passes 93 = .ok (.aload_n 0, 1) := by decide +kernel
theorem dX9_passes_94 : decode cX9_passes 94 = .ok (.getfield 7, 3) := by decide +kernel
theorem dX9_passes_97 : decode cX9_passes 97 = .ok (.iconst 4, 1) := by decide +kernel
theorem dX9_passes_98 : decode cX9_passes 98 = .ok (.laload, 1) := by decide +kernel
theorem dX9_passes_99 : decode cX9_passes 99 = .ok (.l2i, 1) := by decide +kernel
theorem dX9_passes_100 : decode cX9_passes 100 = .ok (.invokestatic 229, 3) := by decide +kernel
theorem dX9_passes_103 : decode cX9_passes 103 = .ok (.if_icmp .ge 25, 3) := by decide +kernel
theorem dX9_passes_106 : decode cX9_passes 106 = .ok (.aload_n 0, 1) := by decide +kernel
theorem dX9_passes_107 : decode cX9_passes 107 = .ok (.getfield 7, 3) := by decide +kernel
theorem dX9_passes_110 : decode cX9_passes 110 = .ok (.iload 9, 2) := by decide +kernel
theorem dX9_passes_112 : decode cX9_passes 112 = .ok (.aload_n 0, 1) := by decide +kernel
theorem dX9_passes_113 : decode cX9_passes 113 = .ok (.getfield 7, 3) := by decide +kernel
theorem dX9_passes_116 : decode cX9_passes 116 = .ok (.iload 9, 2) := by decide +kernel
theorem dX9_passes_118 : decode cX9_passes 118 = .ok (.iconst 4, 1) := by decide +kernel
theorem dX9_passes_119 : decode cX9_passes 119 = .ok (.iadd, 1) := by decide +kernel
theorem dX9_passes_120 : decode cX9_passes 120 = .ok (.laload, 1) := by decide +kernel
theorem dX9_passes_121 : decode cX9_passes 121 = .ok (.lastore, 1) := by decide +kernel
theorem dX9_passes_122 : decode cX9_passes 122 = .ok (.iinc 9 1, 3) := by decide +kernel
theorem dX9_passes_125 : decode cX9_passes 125 = .ok (.goto (-34), 3) := by decide +kernel
theorem dX9_passes_128 : decode cX9_passes 128 = .ok (.aload_n 0, 1) := by decide +kernel
theorem dX9_passes_129 : decode cX9_passes 129 = .ok (.getfield 7, 3) := by decide +kernel
theorem dX9_passes_132 : decode cX9_passes 132 = .ok (.iload 7, 2) := by decide +kernel
theorem dX9_passes_134 : decode cX9_passes 134 = .ok (.invokestatic 176, 3) := by decide +kernel
theorem dX9_passes_137 : decode cX9_passes 137 = .ok (.iconst 0, 1) := by decide +kernel
theorem dX9_passes_138 : decode cX9_passes 138 = .ok (.iadd, 1) := by decide +kernel
theorem dX9_passes_139 : decode cX9_passes 139 = .ok (.laload, 1) := by decide +kernel
theorem dX9_passes_140 : decode cX9_passes 140 = .ok (.l2i, 1) := by decide +kernel
theorem dX9_passes_141 : decode cX9_passes 141 = .ok (.istore 9, 2) := by decide +kernel
theorem dX9_passes_143 : decode cX9_passes 143 = .ok (.aload_n 0, 1) := by decide +kernel
theorem dX9_passes_144 : decode cX9_passes 144 = .ok (.iload 9, 2) := by decide +kernel
theorem dX9_passes_146 : decode cX9_passes 146 = .ok (.iload 7, 2) := by decide +kernel
theorem dX9_passes_148 : decode cX9_passes 148 = .ok (.iload 7, 2) := by decide +kernel
theorem dX9_passes_150 : decode cX9_passes 150 = .ok (.aload_n 0, 1) := by decide +kernel
theorem dX9_passes_151 : decode cX9_passes 151 = .ok (.getfield 7, 3) := by decide +kernel
theorem dX9_passes_154 : decode cX9_passes 154 = .ok (.iload 7, 2) := by decide +kernel
theorem dX9_passes_156 : decode cX9_passes 156 = .ok (.invokestatic 176, 3) := by decide +kernel
theorem dX9_passes_159 : decode cX9_passes 159 = .ok (.iconst 5, 1) := by decide +kernel
theorem dX9_passes_160 : decode cX9_passes 160 = .ok (.iadd, 1) := by decide +kernel
theorem dX9_passes_161 : decode cX9_passes 161 = .ok (.laload, 1) := by decide +kernel
theorem dX9_passes_162 : decode cX9_passes 162 = .ok (.iload 8, 2) := by decide +kernel
theorem dX9_passes_164 : decode cX9_passes 164 = .ok (.lload 5, 2) := by decide +kernel
theorem dX9_passes_166 : decode cX9_passes 166 = .ok (.invokevirtual 223, 3) := by decide +kernel
theorem dX9_passes_169 : decode cX9_passes 169 = .ok (.aload_n 0, 1) := by decide +kernel
theorem dX9_passes_170 : decode cX9_passes 170 = .ok (.iload 9, 2) := by decide +kernel
theorem dX9_passes_172 : decode cX9_passes 172 = .ok (.iload 8, 2) := by decide +kernel
theorem dX9_passes_174 : decode cX9_passes 174 = .ok (.lload 5, 2) := by decide +kernel
theorem dX9_passes_176 : decode cX9_passes 176 = .ok (.invokevirtual 235, 3) := by decide +kernel
theorem dX9_passes_179 : decode cX9_passes 179 = .ok (.iinc 3 1, 3) := by decide +kernel
theorem dX9_passes_182 : decode cX9_passes 182 = .ok (.aload_n 0, 1) := by decide +kernel
theorem dX9_passes_183 : decode cX9_passes 183 = .ok (.invokevirtual 232, 3) := by decide +kernel
theorem dX9_passes_186 : decode cX9_passes 186 = .ok (.istore 4, 2) := by decide +kernel
theorem dX9_passes_188 : decode cX9_passes 188 = .ok (.goto (-180), 3) := by decide +kernel
theorem dX9_passes_191 : decode cX9_passes 191 = .ok (.aload_n 0, 1) := by decide +kernel
theorem dX9_passes_192 : decode cX9_passes 192 = .ok (.getfield 7, 3) := by decide +kernel
theorem dX9_passes_195 : decode cX9_passes 195 = .ok (.iconst 0, 1) := by decide +kernel
theorem dX9_passes_196 : decode cX9_passes 196 = .ok (.lload_n 1, 1) := by decide +kernel
theorem dX9_passes_197 : decode cX9_passes 197 = .ok (.lastore, 1) := by decide +kernel
theorem dX9_passes_198 : decode cX9_passes 198 = .ok (.iload_n 3, 1) := by decide +kernel
theorem dX9_passes_199 : decode cX9_passes 199 = .ok (.ireturn, 1) := by decide +kernel
theorem dX9_keyOf_0 : decode cX9_keyOf 0 = .ok (.aload_n 0, 1) := by decide +kernel
theorem dX9_keyOf_1 : decode cX9_keyOf 1 = .ok (.iload_n 1, 1) := by decide +kernel
theorem dX9_keyOf_2 : decode cX9_keyOf 2 = .ok (.invokevirtual 182, 3) := by decide +kernel
theorem dX9_keyOf_5 : decode cX9_keyOf 5 = .ok (.ifCond .eq 26, 3) := by decide +kernel
theorem dX9_keyOf_8 : decode cX9_keyOf 8 = .ok (.aload_n 0, 1) := by decide +kernel
theorem dX9_keyOf_9 : decode cX9_keyOf 9 = .ok (.getfield 7, 3) := by decide +kernel
theorem dX9_keyOf_12 : decode cX9_keyOf 12 = .ok (.aload_n 0, 1) := by decide +kernel
theorem dX9_keyOf_13 : decode cX9_keyOf 13 = .ok (.getfield 7, 3) := by decide +kernel
theorem dX9_keyOf_16 : decode cX9_keyOf 16 = .ok (.iload_n 2, 1) := by decide +kernel
theorem dX9_keyOf_17 : decode cX9_keyOf 17 = .ok (.iconst 0, 1) := by decide +kernel
theorem dX9_keyOf_18 : decode cX9_keyOf 18 = .ok (.iadd, 1) := by decide +kernel
theorem dX9_keyOf_19 : decode cX9_keyOf 19 = .ok (.laload, 1) := by decide +kernel
theorem dX9_keyOf_20 : decode cX9_keyOf 20 = .ok (.l2i, 1) := by decide +kernel
theorem dX9_keyOf_21 : decode cX9_keyOf 21 = .ok (.invokestatic 201, 3) := by decide +kernel
theorem dX9_keyOf_24 : decode cX9_keyOf 24 = .ok (.iconst 0, 1) := by decide +kernel
theorem dX9_keyOf_25 : decode cX9_keyOf 25 = .ok (.iadd, 1) := by decide +kernel
theorem dX9_keyOf_26 : decode cX9_keyOf 26 = .ok (.laload, 1) := by decide +kernel
theorem dX9_keyOf_27 : decode cX9_keyOf 27 = .ok (.l2i, 1) := by decide +kernel
theorem dX9_keyOf_28 : decode cX9_keyOf 28 = .ok (.goto 12, 3) := by decide +kernel
theorem dX9_keyOf_31 : decode cX9_keyOf 31 = .ok (.aload_n 0, 1) := by decide +kernel
theorem dX9_keyOf_32 : decode cX9_keyOf 32 = .ok (.getfield 7, 3) := by decide +kernel
theorem dX9_keyOf_35 : decode cX9_keyOf 35 = .ok (.iload_n 2, 1) := by decide +kernel
theorem dX9_keyOf_36 : decode cX9_keyOf 36 = .ok (.iconst 0, 1) := by decide +kernel
theorem dX9_keyOf_37 : decode cX9_keyOf 37 = .ok (.iadd, 1) := by decide +kernel
theorem dX9_keyOf_38 : decode cX9_keyOf 38 = .ok (.laload, 1) := by decide +kernel
theorem dX9_keyOf_39 : decode cX9_keyOf 39 = .ok (.l2i, 1) := by decide +kernel
theorem dX9_keyOf_40 : decode cX9_keyOf 40 = .ok (.ireturn, 1) := by decide +kernel
theorem dX9_isAhead_0 : decode cX9_isAhead 0 = .ok (.iload_n 1, 1) := by decide +kernel
theorem dX9_isAhead_1 : decode cX9_isAhead 1 = .ok (.iload_n 2, 1) := by decide +kernel
theorem dX9_isAhead_2 : decode cX9_isAhead 2 = .ok (.invokestatic 215, 3) := by decide +kernel
theorem dX9_isAhead_5 : decode cX9_isAhead 5 = .ok (.istore 4, 2) := by decide +kernel
theorem dX9_isAhead_7 : decode cX9_isAhead 7 = .ok (.iload_n 1, 1) := by decide +kernel
theorem dX9_isAhead_8 : decode cX9_isAhead 8 = .ok (.iload_n 3, 1) := by decide +kernel
theorem dX9_isAhead_9 : decode cX9_isAhead 9 = .ok (.invokestatic 215, 3) := by decide +kernel
theorem dX9_isAhead_12 : decode cX9_isAhead 12 = .ok (.istore 5, 2) := by decide +kernel
theorem dX9_isAhead_14 : decode cX9_isAhead 14 = .ok (.aload_n 0, 1) := by decide +kernel
theorem dX9_isAhead_15 : decode cX9_isAhead 15 = .ok (.getfield 7, 3) := by decide +kernel
theorem dX9_isAhead_18 : decode cX9_isAhead 18 = .ok (.iload 4, 2) := by decide +kernel
theorem dX9_isAhead_20 : decode cX9_isAhead 20 = .ok (.iconst 1, 1) := by decide +kernel
theorem dX9_isAhead_21 : decode cX9_isAhead 21 = .ok (.iadd, 1) := by decide +kernel
theorem dX9_isAhead_22 : decode cX9_isAhead 22 = .ok (.laload, 1) := by decide +kernel
theorem dX9_isAhead_23 : decode cX9_isAhead 23 = .ok (.aload_n 0, 1) := by decide +kernel
theorem dX9_isAhead_24 : decode cX9_isAhead 24 = .ok (.getfield 7, 3) := by decide +kernel
theorem dX9_isAhead_27 : decode cX9_isAhead 27 = .ok (.iload 5, 2) := by decide +kernel
theorem dX9_isAhead_29 : decode cX9_isAhead 29 = .ok (.iconst 1, 1) := by decide +kernel
theorem dX9_isAhead_30 : decode cX9_isAhead 30 = .ok (.iadd, 1) := by decide +kernel
theorem dX9_isAhead_31 : decode cX9_isAhead 31 = .ok (.laload, 1) := by decide +kernel
theorem dX9_isAhead_32 : decode cX9_isAhead 32 = .ok (.lcmp, 1) := by decide +kernel
theorem dX9_isAhead_33 : decode cX9_isAhead 33 = .ok (.ifCond .eq 31, 3) := by decide +kernel
theorem dX9_isAhead_36 : decode cX9_isAhead 36 = .ok (.aload_n 0, 1) := by decide +kernel
theorem dX9_isAhead_37 : decode cX9_isAhead 37 = .ok (.getfield 7, 3) := by decide +kernel
theorem dX9_isAhead_40 : decode cX9_isAhead 40 = .ok (.iload 4, 2) := by decide +kernel
theorem dX9_isAhead_42 : decode cX9_isAhead 42 = .ok (.iconst 1, 1) := by decide +kernel
theorem dX9_isAhead_43 : decode cX9_isAhead 43 = .ok (.iadd, 1) := by decide +kernel
theorem dX9_isAhead_44 : decode cX9_isAhead 44 = .ok (.laload, 1) := by decide +kernel
theorem dX9_isAhead_45 : decode cX9_isAhead 45 = .ok (.aload_n 0, 1) := by decide +kernel
theorem dX9_isAhead_46 : decode cX9_isAhead 46 = .ok (.getfield 7, 3) := by decide +kernel
theorem dX9_isAhead_49 : decode cX9_isAhead 49 = .ok (.iload 5, 2) := by decide +kernel
theorem dX9_isAhead_51 : decode cX9_isAhead 51 = .ok (.iconst 1, 1) := by decide +kernel
theorem dX9_isAhead_52 : decode cX9_isAhead 52 = .ok (.iadd, 1) := by decide +kernel
theorem dX9_isAhead_53 : decode cX9_isAhead 53 = .ok (.laload, 1) := by decide +kernel
theorem dX9_isAhead_54 : decode cX9_isAhead 54 = .ok (.lcmp, 1) := by decide +kernel
theorem dX9_isAhead_55 : decode cX9_isAhead 55 = .ok (.ifCond .ge 7, 3) := by decide +kernel
theorem dX9_isAhead_58 : decode cX9_isAhead 58 = .ok (.iconst 1, 1) := by decide +kernel
theorem dX9_isAhead_59 : decode cX9_isAhead 59 = .ok (.goto 4, 3) := by decide +kernel
theorem dX9_isAhead_62 : decode cX9_isAhead 62 = .ok (.iconst 0, 1) := by decide +kernel
theorem dX9_isAhead_63 : decode cX9_isAhead 63 = .ok (.ireturn, 1) := by decide +kernel
theorem dX9_isAhead_64 : decode cX9_isAhead 64 = .ok (.aload_n 0, 1) := by decide +kernel
theorem dX9_isAhead_65 : decode cX9_isAhead 65 = .ok (.getfield 7, 3) := by decide +kernel
theorem dX9_isAhead_68 : decode cX9_isAhead 68 = .ok (.iload_n 1, 1) := by decide +kernel
theorem dX9_isAhead_69 : decode cX9_isAhead 69 = .ok (.invokestatic 176, 3) := by decide +kernel
theorem dX9_isAhead_72 : decode cX9_isAhead 72 = .ok (.iconst 1, 1) := by decide +kernel
theorem dX9_isAhead_73 : decode cX9_isAhead 73 = .ok (.iadd, 1) := by decide +kernel
theorem dX9_isAhead_74 : decode cX9_isAhead 74 = .ok (.laload, 1) := by decide +kernel
theorem dX9_isAhead_75 : decode cX9_isAhead 75 = .ok (.lstore 6, 2) := by decide +kernel
theorem dX9_isAhead_77 : decode cX9_isAhead 77 = .ok (.lload 6, 2) := by decide +kernel
theorem dX9_isAhead_79 : decode cX9_isAhead 79 = .ok (.ldc2_w 239, 3) := by decide +kernel
theorem dX9_isAhead_82 : decode cX9_isAhead 82 = .ok (.lcmp, 1) := by decide +kernel
theorem dX9_isAhead_83 : decode cX9_isAhead 83 = .ok (.ifCond .ne 26, 3) := by decide +kernel
theorem dX9_isAhead_86 : decode cX9_isAhead 86 = .ok (.aload_n 0, 1) := by decide +kernel
theorem dX9_isAhead_87 : decode cX9_isAhead 87 = .ok (.getfield 7, 3) := by decide +kernel
theorem dX9_isAhead_90 : decode cX9_isAhead 90 = .ok (.aload_n 0, 1) := by decide +kernel
theorem dX9_isAhead_91 : decode cX9_isAhead 91 = .ok (.getfield 7, 3) := by decide +kernel
theorem dX9_isAhead_94 : decode cX9_isAhead 94 = .ok (.iload 4, 2) := by decide +kernel
theorem dX9_isAhead_96 : decode cX9_isAhead 96 = .ok (.iconst 3, 1) := by decide +kernel
theorem dX9_isAhead_97 : decode cX9_isAhead 97 = .ok (.iadd, 1) := by decide +kernel
theorem dX9_isAhead_98 : decode cX9_isAhead 98 = .ok (.laload, 1) := by decide +kernel
theorem dX9_isAhead_99 : decode cX9_isAhead 99 = .ok (.l2i, 1) := by decide +kernel
theorem dX9_isAhead_100 : decode cX9_isAhead 100 = .ok (.invokestatic 201, 3) := by decide +kernel
theorem dX9_isAhead_103 : decode cX9_isAhead 103 = .ok (.iconst 1, 1) := by decide +kernel
theorem dX9_isAhead_104 : decode cX9_isAhead 104 = .ok (.iadd, 1) := by decide +kernel
theorem dX9_isAhead_105 : decode cX9_isAhead 105 = .ok (.laload, 1) := by decide +kernel
theorem dX9_isAhead_106 : decode cX9_isAhead 106 = .ok (.goto 24, 3) := by decide +kernel
theorem dX9_isAhead_109 : decode cX9_isAhead 109 = .ok (.lload 6, 2) := by decide +kernel
theorem dX9_isAhead_111 : decode cX9_isAhead 111 = .ok (.ldc2_w 241, 3) := by decide +kernel
theorem dX9_isAhead_114 : decode cX9_isAhead 114 = .ok (.lcmp, 1) := by decide +kernel
theorem dX9_isAhead_115 : decode cX9_isAhead 115 = .ok (.ifCond .ne 14, 3) := by decide +kernel
theorem dX9_isAhead_118 : decode cX9_isAhead 118 = .ok (.aload_n 0, 1) := by decide +kernel
theorem dX9_isAhead_119 : decode cX9_isAhead 119 = .ok (.iload_n 1, 1) := by decide +kernel
theorem dX9_isAhead_120 : decode cX9_isAhead 120 = .ok (.iload 4, 2) := by decide +kernel
theorem dX9_isAhead_122 : decode cX9_isAhead 122 = .ok (.invokevirtual 243, 3) := by decide +kernel
theorem dX9_isAhead_125 : decode cX9_isAhead 125 = .ok (.i2l, 1) := by decide +kernel
theorem dX9_isAhead_126 : decode cX9_isAhead 126 = .ok (.goto 4, 3) := by decide +kernel
theorem dX9_isAhead_129 : decode cX9_isAhead 129 = .ok (.lconst 0, 1) := by decide +kernel
theorem dX9_isAhead_130 : decode cX9_isAhead 130 = .ok (.lstore 8, 2) := by decide +kernel
theorem dX9_isAhead_132 : decode cX9_isAhead 132 = .ok (.lload 6, 2) := by decide +kernel
theorem dX9_isAhead_134 : decode cX9_isAhead 134 = .ok (.ldc2_w 239, 3) := by decide +kernel
theorem dX9_isAhead_137 : decode cX9_isAhead 137 = .ok (.lcmp, 1) := by decide +kernel
theorem dX9_isAhead_138 : decode cX9_isAhead 138 = .ok (.ifCond .ne 26, 3) := by decide +kernel
theorem dX9_isAhead_141 : decode cX9_isAhead 141 = .ok (.aload_n 0, 1) := by decide +kernel
theorem dX9_isAhead_142 : decode cX9_isAhead 142 = .ok (.getfield 7, 3) := by decide +kernel
theorem dX9_isAhead_145 : decode cX9_isAhead 145 = .ok (.aload_n 0, 1) := by decide +kernel
theorem dX9_isAhead_146 : decode cX9_isAhead 146 = .ok (.getfield 7, 3) := by decide +kernel
theorem dX9_isAhead_149 : decode cX9_isAhead 149 = .ok (.iload 5, 2) := by decide +kernel
theorem dX9_isAhead_151 : decode cX9_isAhead 151 = .ok (.iconst 3, 1) := by decide +kernel
theorem dX9_isAhead_152 : decode cX9_isAhead 152 = .ok (.iadd, 1) := by decide +kernel
theorem dX9_isAhead_153 : decode cX9_isAhead 153 = .ok (.laload, 1) := by decide +kernel
theorem dX9_isAhead_154 : decode cX9_isAhead 154 = .ok (.l2i, 1) := by decide +kernel
theorem dX9_isAhead_155 : decode cX9_isAhead 155 = .ok (.invokestatic 201, 3) := by decide +kernel
theorem dX9_isAhead_158 : decode cX9_isAhead 158 = .ok (.iconst 1, 1) := by decide +kernel
theorem dX9_isAhead_159 : decode cX9_isAhead 159 = .ok (.iadd, 1) := by decide +kernel
theorem dX9_isAhead_160 : decode cX9_isAhead 160 = .ok (.laload, 1) := by decide +kernel
theorem dX9_isAhead_161 : decode cX9_isAhead 161 = .ok (.goto 24, 3) := by decide +kernel
theorem dX9_isAhead_164 : decode cX9_isAhead 164 = .ok (.lload 6, 2) := by decide +kernel
theorem dX9_isAhead_166 : decode cX9_isAhead 166 = .ok (.ldc2_w 241, 3) := by decide +kernel
theorem dX9_isAhead_169 : decode cX9_isAhead 169 = .ok (.lcmp, 1) := by decide +kernel
theorem dX9_isAhead_170 : decode cX9_isAhead 170 = .ok (.ifCond .ne 14, 3) := by decide +kernel
theorem dX9_isAhead_173 : decode cX9_isAhead 173 = .ok (.aload_n 0, 1) := by decide +kernel
theorem dX9_isAhead_174 : decode cX9_isAhead 174 = .ok (.iload_n 1, 1) := by decide +kernel
theorem dX9_isAhead_175 : decode cX9_isAhead 175 = .ok (.iload 5, 2) := by decide +kernel
theorem dX9_isAhead_177 : decode cX9_isAhead 177 = .ok (.invokevirtual 243, 3) := by decide +kernel
theorem dX9_isAhead_180 : decode cX9_isAhead 180 = .ok (.i2l, 1) := by decide +kernel
theorem dX9_isAhead_181 : decode cX9_isAhead 181 = .ok (.goto 4, 3) := by decide +kernel
theorem dX9_isAhead_184 : decode cX9_isAhead 184 = .ok (.lconst 0, 1) := by decide +kernel
theorem dX9_isAhead_185 : decode cX9_isAhead 185 = .ok (.lstore 10, 2) := by decide +kernel
theorem dX9_isAhead_187 : decode cX9_isAhead 187 = .ok (.lload 8, 2) := by decide +kernel
theorem dX9_isAhead_189 : decode cX9_isAhead 189 = .ok (.lload 10, 2) := by decide +kernel
theorem dX9_isAhead_191 : decode cX9_isAhead 191 = .ok (.lcmp, 1) := by decide +kernel
theorem dX9_isAhead_192 : decode cX9_isAhead 192 = .ok (.ifCond .eq 17, 3) := by decide +kernel
theorem dX9_isAhead_195 : decode cX9_isAhead 195 = .ok (.lload 8, 2) := by decide +kernel
theorem dX9_isAhead_197 : decode cX9_isAhead 197 = .ok (.lload 10, 2) := by decide +kernel
theorem dX9_isAhead_199 : decode cX9_isAhead 199 = .ok (.lcmp, 1) := by decide +kernel
theorem dX9_isAhead_200 : decode cX9_isAhead 200 = .ok (.ifCond .ge 7, 3) := by decide +kernel
theorem dX9_isAhead_203 : decode cX9_isAhead 203 = .ok (.iconst 1, 1) := by decide +kernel
theorem dX9_isAhead_204 : decode cX9_isAhead 204 = .ok (.goto 4, 3) := by decide +kernel
theorem dX9_isAhead_207 : decode cX9_isAhead 207 = .ok (.iconst 0, 1) := by decide +kernel
theorem dX9_isAhead_208 : decode cX9_isAhead 208 = .ok (.ireturn, 1) := by decide +kernel
theorem dX9_isAhead_209 : decode cX9_isAhead 209 = .ok (.lload 6, 2) := by decide +kernel
theorem dX9_isAhead_211 : decode cX9_isAhead 211 = .ok (.lconst 1, 1) := by decide +kernel
theorem dX9_isAhead_212 : decode cX9_isAhead 212 = .ok (.lcmp, 1) := by decide +kernel
theorem dX9_isAhead_213 : decode cX9_isAhead 213 = .ok (.ifCond .ne 33, 3) := by decide +kernel
theorem dX9_isAhead_216 : decode cX9_isAhead 216 = .ok (.aload_n 0, 1) := by decide +kernel
theorem dX9_isAhead_217 : decode cX9_isAhead 217 = .ok (.getfield 7, 3) := by decide +kernel
theorem dX9_isAhead_220 : decode cX9_isAhead 220 = .ok (.iload 4, 2) := by decide +kernel
theorem dX9_isAhead_222 : decode cX9_isAhead 222 = .ok (.iconst 2, 1) := by decide +kernel
theorem dX9_isAhead_223 : decode cX9_isAhead 223 = .ok (.iadd, 1) := by decide +kernel
theorem dX9_isAhead_224 : decode cX9_isAhead 224 = .ok (.laload, 1) := by decide +kernel
theorem dX9_isAhead_225 : decode cX9_isAhead 225 = .ok (.aload_n 0, 1) := by decide +kernel
theorem dX9_isAhead_226 : decode cX9_isAhead 226 = .ok (.getfield 7, 3) := by decide +kernel
theorem dX9_isAhead_229 : decode cX9_isAhead 229 = .ok (.iload 5, 2) := by decide +kernel
theorem dX9_isAhead_231 : decode cX9_isAhead 231 = .ok (.iconst 2, 1) := by decide +kernel
theorem dX9_isAhead_232 : decode cX9_isAhead 232 = .ok (.iadd, 1) := by decide +kernel
theorem dX9_isAhead_233 : decode cX9_isAhead 233 = .ok (.laload, 1) := by decide +kernel
theorem dX9_isAhead_234 : decode cX9_isAhead 234 = .ok (.lcmp, 1) := by decide +kernel
theorem dX9_isAhead_235 : decode cX9_isAhead 235 = .ok (.ifCond .le 7, 3) := by decide +kernel
theorem dX9_isAhead_238 : decode cX9_isAhead 238 = .ok (.iconst 1, 1) := by decide +kernel
theorem dX9_isAhead_239 : decode cX9_isAhead 239 = .ok (.goto 34, 3) := by decide +kernel
theorem dX9_isAhead_242 : decode cX9_isAhead 242 = .ok (.iconst 0, 1) := by decide +kernel
theorem dX9_isAhead_243 : decode cX9_isAhead 243 = .ok (.goto 30, 3) := by decide +kernel
theorem dX9_isAhead_246 : decode cX9_isAhead 246 = .ok (.aload_n 0, 1) := by decide +kernel
theorem dX9_isAhead_247 : decode cX9_isAhead 247 = .ok (.getfield 7, 3) := by decide +kernel
theorem dX9_isAhead_250 : decode cX9_isAhead 250 = .ok (.iload 4, 2) := by decide +kernel
theorem dX9_isAhead_252 : decode cX9_isAhead 252 = .ok (.iconst 2, 1) := by decide +kernel
theorem dX9_isAhead_253 : decode cX9_isAhead 253 = .ok (.iadd, 1) := by decide +kernel
theorem dX9_isAhead_254 : decode cX9_isAhead 254 = .ok (.laload, 1) := by decide +kernel
theorem dX9_isAhead_255 : decode cX9_isAhead 255 = .ok (.aload_n 0, 1) := by decide +kernel
theorem dX9_isAhead_256 : decode cX9_isAhead 256 = .ok (.getfield 7, 3) := by decide +kernel
theorem dX9_isAhead_259 : decode cX9_isAhead 259 = .ok (.iload 5, 2) := by decide +kernel
theorem dX9_isAhead_261 : decode cX9_isAhead 261 = .ok (.iconst 2, 1) := by decide +kernel
theorem dX9_isAhead_262 : decode cX9_isAhead 262 = .ok (.iadd, 1) := by decide +kernel
theorem dX9_isAhead_263 : decode cX9_isAhead 263 = .ok (.laload, 1) := by decide +kernel
theorem dX9_isAhead_264 : decode cX9_isAhead 264 = .ok (.lcmp, 1) := by decide +kernel
theorem dX9_isAhead_265 : decode cX9_isAhead 265 = .ok (.ifCond .ge 7, 3) := by decide +kernel
theorem dX9_isAhead_268 : decode cX9_isAhead 268 = .ok (.iconst 1, 1) := by decide +kernel
theorem dX9_isAhead_269 : decode cX9_isAhead 269 = .ok (.goto 4, 3) := by decide +kernel
theorem dX9_isAhead_272 : decode cX9_isAhead 272 = .ok (.iconst 0, 1) := by decide +kernel
theorem dX9_isAhead_273 : decode cX9_isAhead 273 = .ok (.ireturn, 1) := by decide +kernel
theorem dX9_placeOf_0 : decode cX9_placeOf 0 = .ok (.aload_n 0, 1) := by decide +kernel
theorem dX9_placeOf_1 : decode cX9_placeOf 1 = .ok (.getfield 7, 3) := by decide +kernel
theorem dX9_placeOf_4 : decode cX9_placeOf 4 = .ok (.iload_n 1, 1) := by decide +kernel
theorem dX9_placeOf_5 : decode cX9_placeOf 5 = .ok (.invokestatic 176, 3) := by decide +kernel
theorem dX9_placeOf_8 : decode cX9_placeOf 8 = .ok (.bipush 11, 2) := by decide +kernel
theorem dX9_placeOf_10 : decode cX9_placeOf 10 = .ok (.iadd, 1) := by decide +kernel
theorem dX9_placeOf_11 : decode cX9_placeOf 11 = .ok (.laload, 1) := by decide +kernel
theorem dX9_placeOf_12 : decode cX9_placeOf 12 = .ok (.l2i, 1) := by decide +kernel
theorem dX9_placeOf_13 : decode cX9_placeOf 13 = .ok (.istore_n 3, 1) := by decide +kernel
theorem dX9_placeOf_14 : decode cX9_placeOf 14 = .ok (.iconst 0, 1) := by decide +kernel
theorem dX9_placeOf_15 : decode cX9_placeOf 15 = .ok (.istore 4, 2) := by decide +kernel
theorem dX9_placeOf_17 : decode cX9_placeOf 17 = .ok (.iload 4, 2) := by decide +kernel
theorem dX9_placeOf_19 : decode cX9_placeOf 19 = .ok (.iload_n 3, 1) := by decide +kernel
theorem dX9_placeOf_20 : decode cX9_placeOf 20 = .ok (.if_icmp .ge 65, 3) := by decide +kernel
theorem dX9_placeOf_23 : decode cX9_placeOf 23 = .ok (.iconst 0, 1) := by decide +kernel
theorem dX9_placeOf_24 : decode cX9_placeOf 24 = .ok (.istore 5, 2) := by decide +kernel
theorem dX9_placeOf_26 : decode cX9_placeOf 26 = .ok (.iconst 0, 1) := by decide +kernel
theorem dX9_placeOf_27 : decode cX9_placeOf 27 = .ok (.istore 6, 2) := by decide +kernel
theorem dX9_placeOf_29 : decode cX9_placeOf 29 = .ok (.iload 6, 2) := by decide +kernel
theorem dX9_placeOf_31 : decode cX9_placeOf 31 = .ok (.iload_n 3, 1) := by decide +kernel
theorem dX9_placeOf_32 : decode cX9_placeOf 32 = .ok (.if_icmp .ge 38, 3) := by decide +kernel
theorem dX9_placeOf_35 : decode cX9_placeOf 35 = .ok (.iload 5, 2) := by decide +kernel
theorem dX9_placeOf_37 : decode cX9_placeOf 37 = .ok (.iload 4, 2) := by decide +kernel
theorem dX9_placeOf_39 : decode cX9_placeOf 39 = .ok (.iload 6, 2) := by decide +kernel
theorem dX9_placeOf_41 : decode cX9_placeOf 41 = .ok (.if_icmp .eq 19, 3) := by decide +kernel
theorem dX9_placeOf_44 : decode cX9_placeOf 44 = .ok (.aload_n 0, 1) := by decide +kernel
theorem dX9_placeOf_45 : decode cX9_placeOf 45 = .ok (.iload_n 1, 1) := by decide +kernel
theorem dX9_placeOf_46 : decode cX9_placeOf 46 = .ok (.iload 6, 2) := by decide +kernel
theorem dX9_placeOf_48 : decode cX9_placeOf 48 = .ok (.iload 4, 2) := by decide +kernel
theorem dX9_placeOf_50 : decode cX9_placeOf 50 = .ok (.invokevirtual 246, 3) := by decide +kernel
theorem dX9_placeOf_53 : decode cX9_placeOf 53 = .ok (.ifCond .eq 7, 3) := by decide +kernel
theorem dX9_placeOf_56 : decode cX9_placeOf 56 = .ok (.iconst 1, 1) := by decide +kernel
theorem dX9_placeOf_57 : decode cX9_placeOf 57 = .ok (.goto 4, 3) := by decide +kernel
theorem dX9_placeOf_60 : decode cX9_placeOf 60 = .ok (.iconst 0, 1) := by decide +kernel
theorem dX9_placeOf_61 : decode cX9_placeOf 61 = .ok (.iadd, 1) := by decide +kernel
theorem dX9_placeOf_62 : decode cX9_placeOf 62 = .ok (.istore 5, 2) := by decide +kernel
theorem dX9_placeOf_64 : decode cX9_placeOf 64 = .ok (.iinc 6 1, 3) := by decide +kernel
theorem dX9_placeOf_67 : decode cX9_placeOf 67 = .ok (.goto (-38), 3) := by decide +kernel
theorem dX9_placeOf_70 : decode cX9_placeOf 70 = .ok (.iload 5, 2) := by decide +kernel
theorem dX9_placeOf_72 : decode cX9_placeOf 72 = .ok (.iload_n 2, 1) := by decide +kernel
theorem dX9_placeOf_73 : decode cX9_placeOf 73 = .ok (.if_icmp .ne 6, 3) := by decide +kernel
theorem dX9_placeOf_76 : decode cX9_placeOf 76 = .ok (.iload 4, 2) := by decide +kernel
theorem dX9_placeOf_78 : decode cX9_placeOf 78 = .ok (.ireturn, 1) := by decide +kernel
theorem dX9_placeOf_79 : decode cX9_placeOf 79 = .ok (.iinc 4 1, 3) := by decide +kernel
theorem dX9_placeOf_82 : decode cX9_placeOf 82 = .ok (.goto (-65), 3) := by decide +kernel
theorem dX9_placeOf_85 : decode cX9_placeOf 85 = .ok (.iconst (-1), 1) := by decide +kernel
theorem dX9_placeOf_86 : decode cX9_placeOf 86 = .ok (.ireturn, 1) := by decide +kernel
theorem dX9_takes_0 : decode cX9_takes 0 = .ok (.aload_n 0, 1) := by decide +kernel
theorem dX9_takes_1 : decode cX9_takes 1 = .ok (.iload_n 1, 1) := by decide +kernel
theorem dX9_takes_2 : decode cX9_takes 2 = .ok (.iconst 0, 1) := by decide +kernel
theorem dX9_takes_3 : decode cX9_takes 3 = .ok (.invokevirtual 250, 3) := by decide +kernel
theorem dX9_takes_6 : decode cX9_takes 6 = .ok (.istore_n 2, 1) := by decide +kernel
theorem dX9_takes_7 : decode cX9_takes 7 = .ok (.aload_n 0, 1) := by decide +kernel
theorem dX9_takes_8 : decode cX9_takes 8 = .ok (.getfield 7, 3) := by decide +kernel
theorem dX9_takes_11 : decode cX9_takes 11 = .ok (.iload_n 1, 1) := by decide +kernel
theorem dX9_takes_12 : decode cX9_takes 12 = .ok (.iload_n 2, 1) := by decide +kernel
theorem dX9_takes_13 : decode cX9_takes 13 = .ok (.invokestatic 215, 3) := by decide +kernel
theorem dX9_takes_16 : decode cX9_takes 16 = .ok (.iconst 0, 1) := by decide +kernel
theorem dX9_takes_17 : decode cX9_takes 17 = .ok (.iadd, 1) := by decide +kernel
theorem dX9_takes_18 : decode cX9_takes 18 = .ok (.laload, 1) := by decide +kernel
theorem dX9_takes_19 : decode cX9_takes 19 = .ok (.l2i, 1) := by decide +kernel
theorem dX9_takes_20 : decode cX9_takes 20 = .ok (.istore_n 3, 1) := by decide +kernel
theorem dX9_takes_21 : decode cX9_takes 21 = .ok (.aload_n 0, 1) := by decide +kernel
theorem dX9_takes_22 : decode cX9_takes 22 = .ok (.getfield 7, 3) := by decide +kernel
theorem dX9_takes_25 : decode cX9_takes 25 = .ok (.iload_n 1, 1) := by decide +kernel
theorem dX9_takes_26 : decode cX9_takes 26 = .ok (.invokestatic 176, 3) := by decide +kernel
theorem dX9_takes_29 : decode cX9_takes 29 = .ok (.bipush 6, 2) := by decide +kernel
theorem dX9_takes_31 : decode cX9_takes 31 = .ok (.iadd, 1) := by decide +kernel
theorem dX9_takes_32 : decode cX9_takes 32 = .ok (.aload_n 0, 1) := by decide +kernel
theorem dX9_takes_33 : decode cX9_takes 33 = .ok (.getfield 7, 3) := by decide +kernel
theorem dX9_takes_36 : decode cX9_takes 36 = .ok (.iload_n 1, 1) := by decide +kernel
theorem dX9_takes_37 : decode cX9_takes 37 = .ok (.iload_n 2, 1) := by decide +kernel
theorem dX9_takes_38 : decode cX9_takes 38 = .ok (.invokestatic 215, 3) := by decide +kernel
theorem dX9_takes_41 : decode cX9_takes 41 = .ok (.iconst 1, 1) := by decide +kernel
theorem dX9_takes_42 : decode cX9_takes 42 = .ok (.iadd, 1) := by decide +kernel
theorem dX9_takes_43 : decode cX9_takes 43 = .ok (.laload, 1) := by decide +kernel
theorem dX9_takes_44 : decode cX9_takes 44 = .ok (.lastore, 1) := by decide +kernel
theorem dX9_takes_45 : decode cX9_takes 45 = .ok (.aload_n 0, 1) := by decide +kernel
theorem dX9_takes_46 : decode cX9_takes 46 = .ok (.getfield 7, 3) := by decide +kernel
theorem dX9_takes_49 : decode cX9_takes 49 = .ok (.iload_n 1, 1) := by decide +kernel
theorem dX9_takes_50 : decode cX9_takes 50 = .ok (.invokestatic 176, 3) := by decide +kernel
theorem dX9_takes_53 : decode cX9_takes 53 = .ok (.bipush 11, 2) := by decide +kernel
theorem dX9_takes_55 : decode cX9_takes 55 = .ok (.iadd, 1) := by decide +kernel
theorem dX9_takes_56 : decode cX9_takes 56 = .ok (.dup2, 1) := by decide +kernel
theorem dX9_takes_57 : decode cX9_takes 57 = .ok (.laload, 1) := by decide +kernel
theorem dX9_takes_58 : decode cX9_takes 58 = .ok (.lconst 1, 1) := by decide +kernel
theorem dX9_takes_59 : decode cX9_takes 59 = .ok (.lsub, 1) := by decide +kernel
theorem dX9_takes_60 : decode cX9_takes 60 = .ok (.lastore, 1) := by decide +kernel
theorem dX9_takes_61 : decode cX9_takes 61 = .ok (.iload_n 1, 1) := by decide +kernel
theorem dX9_takes_62 : decode cX9_takes 62 = .ok (.iload_n 2, 1) := by decide +kernel
theorem dX9_takes_63 : decode cX9_takes 63 = .ok (.invokestatic 215, 3) := by decide +kernel
theorem dX9_takes_66 : decode cX9_takes 66 = .ok (.istore 4, 2) := by decide +kernel
theorem dX9_takes_68 : decode cX9_takes 68 = .ok (.iload 4, 2) := by decide +kernel
theorem dX9_takes_70 : decode cX9_takes 70 = .ok (.iload_n 1, 1) := by decide +kernel
theorem dX9_takes_71 : decode cX9_takes 71 = .ok (.aload_n 0, 1) := by decide +kernel
theorem dX9_takes_72 : decode cX9_takes 72 = .ok (.getfield 7, 3) := by decide +kernel
theorem dX9_takes_75 : decode cX9_takes 75 = .ok (.iload_n 1, 1) := by decide +kernel
theorem dX9_takes_76 : decode cX9_takes 76 = .ok (.invokestatic 176, 3) := by decide +kernel
theorem dX9_takes_79 : decode cX9_takes 79 = .ok (.bipush 11, 2) := by decide +kernel
theorem dX9_takes_81 : decode cX9_takes 81 = .ok (.iadd, 1) := by decide +kernel
theorem dX9_takes_82 : decode cX9_takes 82 = .ok (.laload, 1) := by decide +kernel
theorem dX9_takes_83 : decode cX9_takes 83 = .ok (.l2i, 1) := by decide +kernel
theorem dX9_takes_84 : decode cX9_takes 84 = .ok (.invokestatic 215, 3) := by decide +kernel
theorem dX9_takes_87 : decode cX9_takes 87 = .ok (.if_icmp .ge 25, 3) := by decide +kernel
theorem dX9_takes_90 : decode cX9_takes 90 = .ok (.aload_n 0, 1) := by decide +kernel
theorem dX9_takes_91 : decode cX9_takes 91 = .ok (.getfield 7, 3) := by decide +kernel
theorem dX9_takes_94 : decode cX9_takes 94 = .ok (.iload 4, 2) := by decide +kernel
theorem dX9_takes_96 : decode cX9_takes 96 = .ok (.aload_n 0, 1) := by decide +kernel
theorem dX9_takes_97 : decode cX9_takes 97 = .ok (.getfield 7, 3) := by decide +kernel
theorem dX9_takes_100 : decode cX9_takes 100 = .ok (.iload 4, 2) := by decide +kernel
theorem dX9_takes_102 : decode cX9_takes 102 = .ok (.iconst 4, 1) := by decide +kernel
theorem dX9_takes_103 : decode cX9_takes 103 = .ok (.iadd, 1) := by decide +kernel
theorem dX9_takes_104 : decode cX9_takes 104 = .ok (.laload, 1) := by decide +kernel
theorem dX9_takes_105 : decode cX9_takes 105 = .ok (.lastore, 1) := by decide +kernel
theorem dX9_takes_106 : decode cX9_takes 106 = .ok (.iinc 4 1, 3) := by decide +kernel
theorem dX9_takes_109 : decode cX9_takes 109 = .ok (.goto (-41), 3) := by decide +kernel
theorem dX9_takes_112 : decode cX9_takes 112 = .ok (.iload_n 3, 1) := by decide +kernel
theorem dX9_takes_113 : decode cX9_takes 113 = .ok (.ireturn, 1) := by decide +kernel
theorem dX9_goes_0 : decode cX9_goes 0 = .ok (.aload_n 0, 1) := by decide +kernel
theorem dX9_goes_1 : decode cX9_goes 1 = .ok (.getfield 7, 3) := by decide +kernel
theorem dX9_goes_4 : decode cX9_goes 4 = .ok (.iconst 0, 1) := by decide +kernel
theorem dX9_goes_5 : decode cX9_goes 5 = .ok (.invokestatic 176, 3) := by decide +kernel
theorem dX9_goes_8 : decode cX9_goes 8 = .ok (.bipush 11, 2) := by decide +kernel
theorem dX9_goes_10 : decode cX9_goes 10 = .ok (.iadd, 1) := by decide +kernel
theorem dX9_goes_11 : decode cX9_goes 11 = .ok (.laload, 1) := by decide +kernel
theorem dX9_goes_12 : decode cX9_goes 12 = .ok (.lconst 0, 1) := by decide +kernel
theorem dX9_goes_13 : decode cX9_goes 13 = .ok (.lcmp, 1) := by decide +kernel
theorem dX9_goes_14 : decode cX9_goes 14 = .ok (.ifCond .ne 5, 3) := by decide +kernel
theorem dX9_goes_17 : decode cX9_goes 17 = .ok (.iconst (-1), 1) := by decide +kernel
theorem dX9_goes_18 : decode cX9_goes 18 = .ok (.ireturn, 1) := by decide +kernel
theorem dX9_goes_19 : decode cX9_goes 19 = .ok (.iconst 0, 1) := by decide +kernel
theorem dX9_goes_20 : decode cX9_goes 20 = .ok (.istore_n 1, 1) := by decide +kernel
theorem dX9_goes_21 : decode cX9_goes 21 = .ok (.aload_n 0, 1) := by decide +kernel
theorem dX9_goes_22 : decode cX9_goes 22 = .ok (.iconst 0, 1) := by decide +kernel
theorem dX9_goes_23 : decode cX9_goes 23 = .ok (.invokevirtual 253, 3) := by decide +kernel
theorem dX9_goes_26 : decode cX9_goes 26 = .ok (.istore_n 2, 1) := by decide +kernel
theorem dX9_goes_27 : decode cX9_goes 27 = .ok (.iconst 0, 1) := by decide +kernel
theorem dX9_goes_28 : decode cX9_goes 28 = .ok (.istore_n 3, 1) := by decide +kernel
theorem dX9_goes_29 : decode cX9_goes 29 = .ok (.iload_n 3, 1) := by decide +kernel
theorem dX9_goes_30 : decode cX9_goes 30 = .ok (.bipush 12, 2) := by decide +kernel
theorem dX9_goes_32 : decode cX9_goes 32 = .ok (.if_icmp .ge 25, 3) := by decide +kernel
theorem dX9_goes_35 : decode cX9_goes 35 = .ok (.aload_n 0, 1) := by decide +kernel
theorem dX9_goes_36 : decode cX9_goes 36 = .ok (.iload_n 1, 1) := by decide +kernel
theorem dX9_goes_37 : decode cX9_goes 37 = .ok (.invokevirtual 182, 3) := by decide +kernel
theorem dX9_goes_40 : decode cX9_goes 40 = .ok (.ifCond .ne 17, 3) := by decide +kernel
theorem dX9_goes_43 : decode cX9_goes 43 = .ok (.iload_n 2, 1) := by decide +kernel
theorem dX9_goes_44 : decode cX9_goes 44 = .ok (.istore_n 1, 1) := by decide +kernel
theorem dX9_goes_45 : decode cX9_goes 45 = .ok (.aload_n 0, 1) := by decide +kernel
theorem dX9_goes_46 : decode cX9_goes 46 = .ok (.iload_n 1, 1) := by decide +kernel
theorem dX9_goes_47 : decode cX9_goes 47 = .ok (.invokevirtual 253, 3) := by decide +kernel
theorem dX9_goes_50 : decode cX9_goes 50 = .ok (.istore_n 2, 1) := by decide +kernel
theorem dX9_goes_51 : decode cX9_goes 51 = .ok (.iinc 3 1, 3) := by decide +kernel
theorem dX9_goes_54 : decode cX9_goes 54 = .ok (.goto (-25), 3) := by decide +kernel
theorem dX9_goes_57 : decode cX9_goes 57 = .ok (.aload_n 0, 1) := by decide +kernel
theorem dX9_goes_58 : decode cX9_goes 58 = .ok (.getfield 7, 3) := by decide +kernel
theorem dX9_goes_61 : decode cX9_goes 61 = .ok (.bipush 7, 2) := by decide +kernel
theorem dX9_goes_63 : decode cX9_goes 63 = .ok (.dup2, 1) := by decide +kernel
theorem dX9_goes_64 : decode cX9_goes 64 = .ok (.laload, 1) := by decide +kernel
theorem dX9_goes_65 : decode cX9_goes 65 = .ok (.lconst 1, 1) := by decide +kernel
theorem dX9_goes_66 : decode cX9_goes 66 = .ok (.lsub, 1) := by decide +kernel
theorem dX9_goes_67 : decode cX9_goes 67 = .ok (.lastore, 1) := by decide +kernel
theorem dX9_goes_68 : decode cX9_goes 68 = .ok (.aload_n 0, 1) := by decide +kernel
theorem dX9_goes_69 : decode cX9_goes 69 = .ok (.getfield 7, 3) := by decide +kernel
theorem dX9_goes_72 : decode cX9_goes 72 = .ok (.iload_n 2, 1) := by decide +kernel
theorem dX9_goes_73 : decode cX9_goes 73 = .ok (.invokestatic 201, 3) := by decide +kernel
theorem dX9_goes_76 : decode cX9_goes 76 = .ok (.bipush 6, 2) := by decide +kernel
theorem dX9_goes_78 : decode cX9_goes 78 = .ok (.iadd, 1) := by decide +kernel
theorem dX9_goes_79 : decode cX9_goes 79 = .ok (.lconst 0, 1) := by decide +kernel
theorem dX9_goes_80 : decode cX9_goes 80 = .ok (.lastore, 1) := by decide +kernel
theorem dX9_goes_81 : decode cX9_goes 81 = .ok (.iload_n 2, 1) := by decide +kernel
theorem dX9_goes_82 : decode cX9_goes 82 = .ok (.ireturn, 1) := by decide +kernel
theorem dX9_departs_0 : decode cX9_departs 0 = .ok (.aload_n 0, 1) := by decide +kernel
theorem dX9_departs_1 : decode cX9_departs 1 = .ok (.getfield 7, 3) := by decide +kernel
theorem dX9_departs_4 : decode cX9_departs 4 = .ok (.iload_n 1, 1) := by decide +kernel
theorem dX9_departs_5 : decode cX9_departs 5 = .ok (.invokestatic 201, 3) := by decide +kernel
theorem dX9_departs_8 : decode cX9_departs 8 = .ok (.iconst 0, 1) := by decide +kernel
theorem dX9_departs_9 : decode cX9_departs 9 = .ok (.iadd, 1) := by decide +kernel
theorem dX9_departs_10 : decode cX9_departs 10 = .ok (.laload, 1) := by decide +kernel
theorem dX9_departs_11 : decode cX9_departs 11 = .ok (.l2i, 1) := by decide +kernel
theorem dX9_departs_12 : decode cX9_departs 12 = .ok (.invokestatic 179, 3) := by decide +kernel
theorem dX9_departs_15 : decode cX9_departs 15 = .ok (.istore 4, 2) := by decide +kernel
theorem dX9_departs_17 : decode cX9_departs 17 = .ok (.lload_n 2, 1) := by decide +kernel
theorem dX9_departs_18 : decode cX9_departs 18 = .ok (.aload_n 0, 1) := by decide +kernel
theorem dX9_departs_19 : decode cX9_departs 19 = .ok (.getfield 7, 3) := by decide +kernel
theorem dX9_departs_22 : decode cX9_departs 22 = .ok (.iload_n 1, 1) := by decide +kernel
theorem dX9_departs_23 : decode cX9_departs 23 = .ok (.invokestatic 201, 3) := by decide +kernel
theorem dX9_departs_26 : decode cX9_departs 26 = .ok (.iconst 3, 1) := by decide +kernel
theorem dX9_departs_27 : decode cX9_departs 27 = .ok (.iadd, 1) := by decide +kernel
theorem dX9_departs_28 : decode cX9_departs 28 = .ok (.laload, 1) := by decide +kernel
theorem dX9_departs_29 : decode cX9_departs 29 = .ok (.lsub, 1) := by decide +kernel
theorem dX9_departs_30 : decode cX9_departs 30 = .ok (.lstore 5, 2) := by decide +kernel
theorem dX9_departs_32 : decode cX9_departs 32 = .ok (.aload_n 0, 1) := by decide +kernel
theorem dX9_departs_33 : decode cX9_departs 33 = .ok (.getfield 7, 3) := by decide +kernel
theorem dX9_departs_36 : decode cX9_departs 36 = .ok (.iload_n 1, 1) := by decide +kernel
theorem dX9_departs_37 : decode cX9_departs 37 = .ok (.invokestatic 201, 3) := by decide +kernel
theorem dX9_departs_40 : decode cX9_departs 40 = .ok (.iconst 5, 1) := by decide +kernel
theorem dX9_departs_41 : decode cX9_departs 41 = .ok (.iadd, 1) := by decide +kernel
theorem dX9_departs_42 : decode cX9_departs 42 = .ok (.lload_n 2, 1) := by decide +kernel
theorem dX9_departs_43 : decode cX9_departs 43 = .ok (.lastore, 1) := by decide +kernel
theorem dX9_departs_44 : decode cX9_departs 44 = .ok (.aload_n 0, 1) := by decide +kernel
theorem dX9_departs_45 : decode cX9_departs 45 = .ok (.getfield 7, 3) := by decide +kernel
theorem dX9_departs_48 : decode cX9_departs 48 = .ok (.iload 4, 2) := by decide +kernel
theorem dX9_departs_50 : decode cX9_departs 50 = .ok (.iconst 2, 1) := by decide +kernel
theorem dX9_departs_51 : decode cX9_departs 51 = .ok (.iadd, 1) := by decide +kernel
theorem dX9_departs_52 : decode cX9_departs 52 = .ok (.dup2, 1) := by decide +kernel
theorem dX9_departs_53 : decode cX9_departs 53 = .ok (.laload, 1) := by decide +kernel
theorem dX9_departs_54 : decode cX9_departs 54 = .ok (.lconst 1, 1) := by decide +kernel
theorem dX9_departs_55 : decode cX9_departs 55 = .ok (.ladd, 1) := by decide +kernel
theorem dX9_departs_56 : decode cX9_departs 56 = .ok (.lastore, 1) := by decide +kernel
theorem dX9_departs_57 : decode cX9_departs 57 = .ok (.aload_n 0, 1) := by decide +kernel
theorem dX9_departs_58 : decode cX9_departs 58 = .ok (.getfield 7, 3) := by decide +kernel
theorem dX9_departs_61 : decode cX9_departs 61 = .ok (.iload 4, 2) := by decide +kernel
theorem dX9_departs_63 : decode cX9_departs 63 = .ok (.iconst 3, 1) := by decide +kernel
theorem dX9_departs_64 : decode cX9_departs 64 = .ok (.iadd, 1) := by decide +kernel
theorem dX9_departs_65 : decode cX9_departs 65 = .ok (.dup2, 1) := by decide +kernel
theorem dX9_departs_66 : decode cX9_departs 66 = .ok (.laload, 1) := by decide +kernel
theorem dX9_departs_67 : decode cX9_departs 67 = .ok (.aload_n 0, 1) := by decide +kernel
theorem dX9_departs_68 : decode cX9_departs 68 = .ok (.getfield 7, 3) := by decide +kernel
theorem dX9_departs_71 : decode cX9_departs 71 = .ok (.iload_n 1, 1) := by decide +kernel
theorem dX9_departs_72 : decode cX9_departs 72 = .ok (.invokestatic 201, 3) := by decide +kernel
theorem dX9_departs_75 : decode cX9_departs 75 = .ok (.iconst 1, 1) := by decide +kernel
theorem dX9_departs_76 : decode cX9_departs 76 = .ok (.iadd, 1) := by decide +kernel
theorem dX9_departs_77 : decode cX9_departs 77 = .ok (.laload, 1) := by decide +kernel
theorem dX9_departs_78 : decode cX9_departs 78 = .ok (.ladd, 1) := by decide +kernel
theorem dX9_departs_79 : decode cX9_departs 79 = .ok (.lastore, 1) := by decide +kernel
theorem dX9_departs_80 : decode cX9_departs 80 = .ok (.aload_n 0, 1) := by decide +kernel
theorem dX9_departs_81 : decode cX9_departs 81 = .ok (.getfield 7, 3) := by decide +kernel
theorem dX9_departs_84 : decode cX9_departs 84 = .ok (.iload 4, 2) := by decide +kernel
theorem dX9_departs_86 : decode cX9_departs 86 = .ok (.iconst 4, 1) := by decide +kernel
theorem dX9_departs_87 : decode cX9_departs 87 = .ok (.iadd, 1) := by decide +kernel
theorem dX9_departs_88 : decode cX9_departs 88 = .ok (.dup2, 1) := by decide +kernel
theorem dX9_departs_89 : decode cX9_departs 89 = .ok (.laload, 1) := by decide +kernel
theorem dX9_departs_90 : decode cX9_departs 90 = .ok (.lload 5, 2) := by decide +kernel
theorem dX9_departs_92 : decode cX9_departs 92 = .ok (.ladd, 1) := by decide +kernel
theorem dX9_departs_93 : decode cX9_departs 93 = .ok (.lastore, 1) := by decide +kernel
theorem dX9_departs_94 : decode cX9_departs 94 = .ok (.aload_n 0, 1) := by decide +kernel
theorem dX9_departs_95 : decode cX9_departs 95 = .ok (.getfield 7, 3) := by decide +kernel
theorem dX9_departs_98 : decode cX9_departs 98 = .ok (.iload 4, 2) := by decide +kernel
theorem dX9_departs_100 : decode cX9_departs 100 = .ok (.iconst 5, 1) := by decide +kernel
theorem dX9_departs_101 : decode cX9_departs 101 = .ok (.iadd, 1) := by decide +kernel
theorem dX9_departs_102 : decode cX9_departs 102 = .ok (.lload 5, 2) := by decide +kernel
theorem dX9_departs_104 : decode cX9_departs 104 = .ok (.aload_n 0, 1) := by decide +kernel
theorem dX9_departs_105 : decode cX9_departs 105 = .ok (.getfield 7, 3) := by decide +kernel
theorem dX9_departs_108 : decode cX9_departs 108 = .ok (.iload 4, 2) := by decide +kernel
theorem dX9_departs_110 : decode cX9_departs 110 = .ok (.iconst 5, 1) := by decide +kernel
theorem dX9_departs_111 : decode cX9_departs 111 = .ok (.iadd, 1) := by decide +kernel
theorem dX9_departs_112 : decode cX9_departs 112 = .ok (.laload, 1) := by decide +kernel
theorem dX9_departs_113 : decode cX9_departs 113 = .ok (.lcmp, 1) := by decide +kernel
theorem dX9_departs_114 : decode cX9_departs 114 = .ok (.ifCond .le 8, 3) := by decide +kernel
theorem dX9_departs_117 : decode cX9_departs 117 = .ok (.lload 5, 2) := by decide +kernel
theorem dX9_departs_119 : decode cX9_departs 119 = .ok (.goto 12, 3) := by decide +kernel
theorem dX9_departs_122 : decode cX9_departs 122 = .ok (.aload_n 0, 1) := by decide +kernel
theorem dX9_departs_123 : decode cX9_departs 123 = .ok (.getfield 7, 3) := by decide +kernel
theorem dX9_departs_126 : decode cX9_departs 126 = .ok (.iload 4, 2) := by decide +kernel
theorem dX9_departs_128 : decode cX9_departs 128 = .ok (.iconst 5, 1) := by decide +kernel
theorem dX9_departs_129 : decode cX9_departs 129 = .ok (.iadd, 1) := by decide +kernel
theorem dX9_departs_130 : decode cX9_departs 130 = .ok (.laload, 1) := by decide +kernel
theorem dX9_departs_131 : decode cX9_departs 131 = .ok (.lastore, 1) := by decide +kernel
theorem dX9_departs_132 : decode cX9_departs 132 = .ok (.aload_n 0, 1) := by decide +kernel
theorem dX9_departs_133 : decode cX9_departs 133 = .ok (.getfield 7, 3) := by decide +kernel
theorem dX9_departs_136 : decode cX9_departs 136 = .ok (.iload 4, 2) := by decide +kernel
theorem dX9_departs_138 : decode cX9_departs 138 = .ok (.bipush 6, 2) := by decide +kernel
theorem dX9_departs_140 : decode cX9_departs 140 = .ok (.iadd, 1) := by decide +kernel
theorem dX9_departs_141 : decode cX9_departs 141 = .ok (.dup2, 1) := by decide +kernel
theorem dX9_departs_142 : decode cX9_departs 142 = .ok (.laload, 1) := by decide +kernel
theorem dX9_departs_143 : decode cX9_departs 143 = .ok (.lload_n 2, 1) := by decide +kernel
theorem dX9_departs_144 : decode cX9_departs 144 = .ok (.aload_n 0, 1) := by decide +kernel
theorem dX9_departs_145 : decode cX9_departs 145 = .ok (.getfield 7, 3) := by decide +kernel
theorem dX9_departs_148 : decode cX9_departs 148 = .ok (.iload_n 1, 1) := by decide +kernel
theorem dX9_departs_149 : decode cX9_departs 149 = .ok (.invokestatic 201, 3) := by decide +kernel
theorem dX9_departs_152 : decode cX9_departs 152 = .ok (.iconst 4, 1) := by decide +kernel
theorem dX9_departs_153 : decode cX9_departs 153 = .ok (.iadd, 1) := by decide +kernel
theorem dX9_departs_154 : decode cX9_departs 154 = .ok (.laload, 1) := by decide +kernel
theorem dX9_departs_155 : decode cX9_departs 155 = .ok (.lcmp, 1) := by decide +kernel
theorem dX9_departs_156 : decode cX9_departs 156 = .ok (.ifCond .le 7, 3) := by decide +kernel
theorem dX9_departs_159 : decode cX9_departs 159 = .ok (.lconst 1, 1) := by decide +kernel
theorem dX9_departs_160 : decode cX9_departs 160 = .ok (.goto 4, 3) := by decide +kernel
theorem dX9_departs_163 : decode cX9_departs 163 = .ok (.lconst 0, 1) := by decide +kernel
theorem dX9_departs_164 : decode cX9_departs 164 = .ok (.ladd, 1) := by decide +kernel
theorem dX9_departs_165 : decode cX9_departs 165 = .ok (.lastore, 1) := by decide +kernel
theorem dX9_departs_166 : decode cX9_departs 166 = .ok (.return_, 1) := by decide +kernel
theorem dX9_sends_0 : decode cX9_sends 0 = .ok (.aload_n 0, 1) := by decide +kernel
theorem dX9_sends_1 : decode cX9_sends 1 = .ok (.invokevirtual 256, 3) := by decide +kernel
theorem dX9_sends_4 : decode cX9_sends 4 = .ok (.istore_n 1, 1) := by decide +kernel
theorem dX9_sends_5 : decode cX9_sends 5 = .ok (.iload_n 1, 1) := by decide +kernel
theorem dX9_sends_6 : decode cX9_sends 6 = .ok (.ifCond .lt 55, 3) := by decide +kernel
theorem dX9_sends_9 : decode cX9_sends 9 = .ok (.aload_n 0, 1) := by decide +kernel
theorem dX9_sends_10 : decode cX9_sends 10 = .ok (.getfield 7, 3) := by decide +kernel
theorem dX9_sends_13 : decode cX9_sends 13 = .ok (.iconst 0, 1) := by decide +kernel
theorem dX9_sends_14 : decode cX9_sends 14 = .ok (.laload, 1) := by decide +kernel
theorem dX9_sends_15 : decode cX9_sends 15 = .ok (.aload_n 0, 1) := by decide +kernel
theorem dX9_sends_16 : decode cX9_sends 16 = .ok (.getfield 7, 3) := by decide +kernel
theorem dX9_sends_19 : decode cX9_sends 19 = .ok (.iload_n 1, 1) := by decide +kernel
theorem dX9_sends_20 : decode cX9_sends 20 = .ok (.invokestatic 201, 3) := by decide +kernel
theorem dX9_sends_23 : decode cX9_sends 23 = .ok (.iconst 1, 1) := by decide +kernel
theorem dX9_sends_24 : decode cX9_sends 24 = .ok (.iadd, 1) := by decide +kernel
theorem dX9_sends_25 : decode cX9_sends 25 = .ok (.laload, 1) := by decide +kernel
theorem dX9_sends_26 : decode cX9_sends 26 = .ok (.ldc2_w 227, 3) := by decide +kernel
theorem dX9_sends_29 : decode cX9_sends 29 = .ok (.lmul, 1) := by decide +kernel
theorem dX9_sends_30 : decode cX9_sends 30 = .ok (.aload_n 0, 1) := by decide +kernel
theorem dX9_sends_31 : decode cX9_sends 31 = .ok (.getfield 7, 3) := by decide +kernel
theorem dX9_sends_34 : decode cX9_sends 34 = .ok (.iconst 1, 1) := by decide +kernel
theorem dX9_sends_35 : decode cX9_sends 35 = .ok (.laload, 1) := by decide +kernel
theorem dX9_sends_36 : decode cX9_sends 36 = .ok (.ladd, 1) := by decide +kernel
theorem dX9_sends_37 : decode cX9_sends 37 = .ok (.lconst 1, 1) := by decide +kernel
theorem dX9_sends_38 : decode cX9_sends 38 = .ok (.lsub, 1) := by decide +kernel
theorem dX9_sends_39 : decode cX9_sends 39 = .ok (.aload_n 0, 1) := by decide +kernel
theorem dX9_sends_40 : decode cX9_sends 40 = .ok (.getfield 7, 3) := by decide +kernel
theorem dX9_sends_43 : decode cX9_sends 43 = .ok (.iconst 1, 1) := by decide +kernel
theorem dX9_sends_44 : decode cX9_sends 44 = .ok (.laload, 1) := by decide +kernel
theorem dX9_sends_45 : decode cX9_sends 45 = .ok (.ldiv, 1) := by decide +kernel
theorem dX9_sends_46 : decode cX9_sends 46 = .ok (.ladd, 1) := by decide +kernel
theorem dX9_sends_47 : decode cX9_sends 47 = .ok (.lstore_n 2, 1) := by decide +kernel
theorem dX9_sends_48 : decode cX9_sends 48 = .ok (.aload_n 0, 1) := by decide +kernel
theorem dX9_sends_49 : decode cX9_sends 49 = .ok (.iload_n 1, 1) := by decide +kernel
theorem dX9_sends_50 : decode cX9_sends 50 = .ok (.lload_n 2, 1) := by decide +kernel
theorem dX9_sends_51 : decode cX9_sends 51 = .ok (.invokevirtual 259, 3) := by decide +kernel
theorem dX9_sends_54 : decode cX9_sends 54 = .ok (.aload_n 0, 1) := by decide +kernel
theorem dX9_sends_55 : decode cX9_sends 55 = .ok (.lload_n 2, 1) := by decide +kernel
theorem dX9_sends_56 : decode cX9_sends 56 = .ok (.invokevirtual 263, 3) := by decide +kernel
theorem dX9_sends_59 : decode cX9_sends 59 = .ok (.istore 4, 2) := by decide +kernel
theorem dX9_sends_61 : decode cX9_sends 61 = .ok (.iload_n 1, 1) := by decide +kernel
theorem dX9_sends_62 : decode cX9_sends 62 = .ok (.ireturn, 1) := by decide +kernel
theorem dX9_isNode_0 : decode cX9_isNode 0 = .ok (.iload_n 1, 1) := by decide +kernel
theorem dX9_isNode_1 : decode cX9_isNode 1 = .ok (.i2l, 1) := by decide +kernel
theorem dX9_isNode_2 : decode cX9_isNode 2 = .ok (.lconst 0, 1) := by decide +kernel
theorem dX9_isNode_3 : decode cX9_isNode 3 = .ok (.aload_n 0, 1) := by decide +kernel
theorem dX9_isNode_4 : decode cX9_isNode 4 = .ok (.getfield 7, 3) := by decide +kernel
theorem dX9_isNode_7 : decode cX9_isNode 7 = .ok (.iconst 2, 1) := by decide +kernel
theorem dX9_isNode_8 : decode cX9_isNode 8 = .ok (.laload, 1) := by decide +kernel
theorem dX9_isNode_9 : decode cX9_isNode 9 = .ok (.lconst 1, 1) := by decide +kernel
theorem dX9_isNode_10 : decode cX9_isNode 10 = .ok (.lsub, 1) := by decide +kernel
theorem dX9_isNode_11 : decode cX9_isNode 11 = .ok (.invokestatic 79, 3) := by decide +kernel
theorem dX9_isNode_14 : decode cX9_isNode 14 = .ok (.ireturn, 1) := by decide +kernel
theorem dX9_isFlow_0 : decode cX9_isFlow 0 = .ok (.iload_n 0, 1) := by decide +kernel
theorem dX9_isFlow_1 : decode cX9_isFlow 1 = .ok (.i2l, 1) := by decide +kernel
theorem dX9_isFlow_2 : decode cX9_isFlow 2 = .ok (.lconst 0, 1) := by decide +kernel
theorem dX9_isFlow_3 : decode cX9_isFlow 3 = .ok (.ldc2_w 267, 3) := by decide +kernel
theorem dX9_isFlow_6 : decode cX9_isFlow 6 = .ok (.invokestatic 79, 3) := by decide +kernel
theorem dX9_isFlow_9 : decode cX9_isFlow 9 = .ok (.ireturn, 1) := by decide +kernel
theorem dX9_nodes_0 : decode cX9_nodes 0 = .ok (.aload_n 0, 1) := by decide +kernel
theorem dX9_nodes_1 : decode cX9_nodes 1 = .ok (.iconst 0, 1) := by decide +kernel
theorem dX9_nodes_2 : decode cX9_nodes 2 = .ok (.putfield 61, 3) := by decide +kernel
theorem dX9_nodes_5 : decode cX9_nodes 5 = .ok (.aload_n 0, 1) := by decide +kernel
theorem dX9_nodes_6 : decode cX9_nodes 6 = .ok (.getfield 7, 3) := by decide +kernel
theorem dX9_nodes_9 : decode cX9_nodes 9 = .ok (.iconst 2, 1) := by decide +kernel
theorem dX9_nodes_10 : decode cX9_nodes 10 = .ok (.laload, 1) := by decide +kernel
theorem dX9_nodes_11 : decode cX9_nodes 11 = .ok (.l2i, 1) := by decide +kernel
theorem dX9_nodes_12 : decode cX9_nodes 12 = .ok (.ireturn, 1) := by decide +kernel
theorem dX9_told_0 : decode cX9_told 0 = .ok (.aload_n 0, 1) := by decide +kernel
theorem dX9_told_1 : decode cX9_told 1 = .ok (.aload_n 0, 1) := by decide +kernel
theorem dX9_told_2 : decode cX9_told 2 = .ok (.iload_n 1, 1) := by decide +kernel
theorem dX9_told_3 : decode cX9_told 3 = .ok (.invokevirtual 269, 3) := by decide +kernel
theorem dX9_told_6 : decode cX9_told 6 = .ok (.ifCond .eq 7, 3) := by decide +kernel
theorem dX9_told_9 : decode cX9_told 9 = .ok (.iconst 0, 1) := by decide +kernel
theorem dX9_told_10 : decode cX9_told 10 = .ok (.goto 4, 3) := by decide +kernel
theorem dX9_told_13 : decode cX9_told 13 = .ok (.iconst 1, 1) := by decide +kernel
theorem dX9_told_14 : decode cX9_told 14 = .ok (.putfield 61, 3) := by decide +kernel
theorem dX9_told_17 : decode cX9_told 17 = .ok (.aload_n 0, 1) := by decide +kernel
theorem dX9_told_18 : decode cX9_told 18 = .ok (.iload_n 1, 1) := by decide +kernel
theorem dX9_told_19 : decode cX9_told 19 = .ok (.invokevirtual 269, 3) := by decide +kernel
theorem dX9_told_22 : decode cX9_told 22 = .ok (.ifCond .eq 18, 3) := by decide +kernel
theorem dX9_told_25 : decode cX9_told 25 = .ok (.aload_n 0, 1) := by decide +kernel
theorem dX9_told_26 : decode cX9_told 26 = .ok (.getfield 7, 3) := by decide +kernel
theorem dX9_told_29 : decode cX9_told 29 = .ok (.iload_n 1, 1) := by decide +kernel
theorem dX9_told_30 : decode cX9_told 30 = .ok (.invokestatic 176, 3) := by decide +kernel
theorem dX9_told_33 : decode cX9_told 33 = .ok (.iload_n 2, 1) := by decide +kernel
theorem dX9_told_34 : decode cX9_told 34 = .ok (.iadd, 1) := by decide +kernel
theorem dX9_told_35 : decode cX9_told 35 = .ok (.laload, 1) := by decide +kernel
theorem dX9_told_36 : decode cX9_told 36 = .ok (.l2i, 1) := by decide +kernel
theorem dX9_told_37 : decode cX9_told 37 = .ok (.goto 4, 3) := by decide +kernel
theorem dX9_told_40 : decode cX9_told 40 = .ok (.iconst 0, 1) := by decide +kernel
theorem dX9_told_41 : decode cX9_told 41 = .ok (.ireturn, 1) := by decide +kernel
theorem dX9_parentOf_0 : decode cX9_parentOf 0 = .ok (.aload_n 0, 1) := by decide +kernel
theorem dX9_parentOf_1 : decode cX9_parentOf 1 = .ok (.iload_n 1, 1) := by decide +kernel
theorem dX9_parentOf_2 : decode cX9_parentOf 2 = .ok (.iconst 0, 1) := by decide +kernel
theorem dX9_parentOf_3 : decode cX9_parentOf 3 = .ok (.invokevirtual 272, 3) := by decide +kernel
theorem dX9_parentOf_6 : decode cX9_parentOf 6 = .ok (.ireturn, 1) := by decide +kernel
theorem dX9_children_0 : decode cX9_children 0 = .ok (.aload_n 0, 1) := by decide +kernel
theorem dX9_children_1 : decode cX9_children 1 = .ok (.aload_n 0, 1) := by decide +kernel
theorem dX9_children_2 : decode cX9_children 2 = .ok (.iload_n 1, 1) := by decide +kernel
theorem dX9_children_3 : decode cX9_children 3 = .ok (.invokevirtual 269, 3) := by decide +kernel
theorem dX9_children_6 : decode cX9_children 6 = .ok (.ifCond .eq 7, 3) := by decide +kernel
theorem dX9_children_9 : decode cX9_children 9 = .ok (.iconst 0, 1) := by decide +kernel
theorem dX9_children_10 : decode cX9_children 10 = .ok (.goto 4, 3) := by decide +kernel
theorem dX9_children_13 : decode cX9_children 13 = .ok (.iconst 1, 1) := by decide +kernel
theorem dX9_children_14 : decode cX9_children 14 = .ok (.putfield 61, 3) := by decide +kernel
theorem dX9_children_17 : decode cX9_children 17 = .ok (.iconst 0, 1) := by decide +kernel
theorem dX9_children_18 : decode cX9_children 18 = .ok (.istore_n 2, 1) := by decide +kernel
theorem dX9_children_19 : decode cX9_children 19 = .ok (.iconst 0, 1) := by decide +kernel
theorem dX9_children_20 : decode cX9_children 20 = .ok (.istore_n 3, 1) := by decide +kernel
theorem dX9_children_21 : decode cX9_children 21 = .ok (.iload_n 3, 1) := by decide +kernel
theorem dX9_children_22 : decode cX9_children 22 = .ok (.i2l, 1) := by decide +kernel
theorem dX9_children_23 : decode cX9_children 23 = .ok (.aload_n 0, 1) := by decide +kernel
theorem dX9_children_24 : decode cX9_children 24 = .ok (.getfield 7, 3) := by decide +kernel
theorem dX9_children_27 : decode cX9_children 27 = .ok (.iconst 2, 1) := by decide +kernel
theorem dX9_children_28 : decode cX9_children 28 = .ok (.laload, 1) := by decide +kernel
theorem dX9_children_29 : decode cX9_children 29 = .ok (.lcmp, 1) := by decide +kernel
theorem dX9_children_30 : decode cX9_children 30 = .ok (.ifCond .ge 41, 3) := by decide +kernel
theorem dX9_children_33 : decode cX9_children 33 = .ok (.aload_n 0, 1) := by decide +kernel
theorem dX9_children_34 : decode cX9_children 34 = .ok (.getfield 61, 3) := by decide +kernel
theorem dX9_children_37 : decode cX9_children 37 = .ok (.ifCond .ne 34, 3) := by decide +kernel
theorem dX9_children_40 : decode cX9_children 40 = .ok (.iload_n 2, 1) := by decide +kernel
theorem dX9_children_41 : decode cX9_children 41 = .ok (.aload_n 0, 1) := by decide +kernel
theorem dX9_children_42 : decode cX9_children 42 = .ok (.getfield 7, 3) := by decide +kernel
theorem dX9_children_45 : decode cX9_children 45 = .ok (.iload_n 3, 1) := by decide +kernel
theorem dX9_children_46 : decode cX9_children 46 = .ok (.invokestatic 176, 3) := by decide +kernel
theorem dX9_children_49 : decode cX9_children 49 = .ok (.iconst 0, 1) := by decide +kernel
theorem dX9_children_50 : decode cX9_children 50 = .ok (.iadd, 1) := by decide +kernel
theorem dX9_children_51 : decode cX9_children 51 = .ok (.laload, 1) := by decide +kernel
theorem dX9_children_52 : decode cX9_children 52 = .ok (.iload_n 1, 1) := by decide +kernel
theorem dX9_children_53 : decode cX9_children 53 = .ok (.i2l, 1) := by decide +kernel
theorem dX9_children_54 : decode cX9_children 54 = .ok (.lcmp, 1) := by decide +kernel
theorem dX9_children_55 : decode cX9_children 55 = .ok (.ifCond .ne 7, 3) := by decide +kernel
theorem dX9_children_58 : decode cX9_children 58 = .ok (.iconst 1, 1) := by decide +kernel
theorem dX9_children_59 : decode cX9_children 59 = .ok (.goto 4, 3) := by decide +kernel
theorem dX9_children_62 : decode cX9_children 62 = .ok (.iconst 0, 1) := by decide +kernel
theorem dX9_children_63 : decode cX9_children 63 = .ok (.iadd, 1) := by decide +kernel
theorem dX9_children_64 : decode cX9_children 64 = .ok (.istore_n 2, 1) := by decide +kernel
theorem dX9_children_65 : decode cX9_children 65 = .ok (.iinc 3 1, 3) := by decide +kernel
theorem dX9_children_68 : decode cX9_children 68 = .ok (.goto (-47), 3) := by decide +kernel
theorem dX9_children_71 : decode cX9_children 71 = .ok (.iload_n 2, 1) := by decide +kernel
theorem dX9_children_72 : decode cX9_children 72 = .ok (.ireturn, 1) := by decide +kernel
theorem dX9_tieRule_0 : decode cX9_tieRule 0 = .ok (.aload_n 0, 1) := by decide +kernel
theorem dX9_tieRule_1 : decode cX9_tieRule 1 = .ok (.iload_n 1, 1) := by decide +kernel
theorem dX9_tieRule_2 : decode cX9_tieRule 2 = .ok (.iconst 1, 1) := by decide +kernel
theorem dX9_tieRule_3 : decode cX9_tieRule 3 = .ok (.invokevirtual 272, 3) := by decide +kernel
theorem dX9_tieRule_6 : decode cX9_tieRule 6 = .ok (.ireturn, 1) := by decide +kernel
theorem dX9_sets_0 : decode cX9_sets 0 = .ok (.aload_n 0, 1) := by decide +kernel
theorem dX9_sets_1 : decode cX9_sets 1 = .ok (.getfield 7, 3) := by decide +kernel
theorem dX9_sets_4 : decode cX9_sets 4 = .ok (.iload_n 1, 1) := by decide +kernel
theorem dX9_sets_5 : decode cX9_sets 5 = .ok (.laload, 1) := by decide +kernel
theorem dX9_sets_6 : decode cX9_sets 6 = .ok (.l2i, 1) := by decide +kernel
theorem dX9_sets_7 : decode cX9_sets 7 = .ok (.istore_n 3, 1) := by decide +kernel
theorem dX9_sets_8 : decode cX9_sets 8 = .ok (.aload_n 0, 1) := by decide +kernel
theorem dX9_sets_9 : decode cX9_sets 9 = .ok (.getfield 7, 3) := by decide +kernel
theorem dX9_sets_12 : decode cX9_sets 12 = .ok (.iload_n 1, 1) := by decide +kernel
theorem dX9_sets_13 : decode cX9_sets 13 = .ok (.iload_n 2, 1) := by decide +kernel
theorem dX9_sets_14 : decode cX9_sets 14 = .ok (.i2l, 1) := by decide +kernel
theorem dX9_sets_15 : decode cX9_sets 15 = .ok (.lastore, 1) := by decide +kernel
theorem dX9_sets_16 : decode cX9_sets 16 = .ok (.iload_n 3, 1) := by decide +kernel
theorem dX9_sets_17 : decode cX9_sets 17 = .ok (.ireturn, 1) := by decide +kernel
theorem dX9_setFlowWeight_0 : decode cX9_setFlowWeight 0 = .ok (.aload_n 0, 1) := by decide +kernel
theorem dX9_setFlowWeight_1 : decode cX9_setFlowWeight 1 = .ok (.iconst 0, 1) := by decide +kernel
theorem dX9_setFlowWeight_2 : decode cX9_setFlowWeight 2 = .ok (.putfield 61, 3) := by decide +kernel
theorem dX9_setFlowWeight_5 : decode cX9_setFlowWeight 5 = .ok (.iload_n 1, 1) := by decide +kernel
theorem dX9_setFlowWeight_6 : decode cX9_setFlowWeight 6 = .ok (.invokestatic 275, 3) := by decide +kernel
theorem dX9_setFlowWeight_9 : decode cX9_setFlowWeight 9 = .ok (.ifCond .ne 9, 3) := by decide +kernel
theorem dX9_setFlowWeight_12 : decode cX9_setFlowWeight 12 = .ok (.aload_n 0, 1) := by decide +kernel
theorem dX9_setFlowWeight_13 : decode cX9_setFlowWeight 13 = .ok (.iconst 1, 1) := by decide +kernel
theorem dX9_setFlowWeight_14 : decode cX9_setFlowWeight 14 = .ok (.invokevirtual 189, 3) := by decide +kernel
theorem dX9_setFlowWeight_17 : decode cX9_setFlowWeight 17 = .ok (.ireturn, 1) := by decide +kernel
theorem dX9_setFlowWeight_18 : decode cX9_setFlowWeight 18 = .ok (.iload_n 2, 1) := by decide +kernel
theorem dX9_setFlowWeight_19 : decode cX9_setFlowWeight 19 = .ok (.i2l, 1) := by decide +kernel
theorem dX9_setFlowWeight_20 : decode cX9_setFlowWeight 20 = .ok (.lconst 1, 1) := by decide +kernel
theorem dX9_setFlowWeight_21 : decode cX9_setFlowWeight 21 = .ok (.ldc2_w 278, 3) := by decide +kernel
theorem dX9_setFlowWeight_24 : decode cX9_setFlowWeight 24 = .ok (.invokestatic 79, 3) := by decide +kernel
theorem dX9_setFlowWeight_27 : decode cX9_setFlowWeight 27 = .ok (.ifCond .eq 17, 3) := by decide +kernel
theorem dX9_setFlowWeight_30 : decode cX9_setFlowWeight 30 = .ok (.aload_n 0, 1) := by decide +kernel
theorem dX9_setFlowWeight_31 : decode cX9_setFlowWeight 31 = .ok (.iload_n 1, 1) := by decide +kernel
theorem dX9_setFlowWeight_32 : decode cX9_setFlowWeight 32 = .ok (.invokestatic 179, 3) := by decide +kernel
theorem dX9_setFlowWeight_35 : decode cX9_setFlowWeight 35 = .ok (.iconst 0, 1) := by decide +kernel
theorem dX9_setFlowWeight_36 : decode cX9_setFlowWeight 36 = .ok (.iadd, 1) := by decide +kernel
theorem dX9_setFlowWeight_37 : decode cX9_setFlowWeight 37 = .ok (.iload_n 2, 1) := by decide +kernel
theorem dX9_setFlowWeight_38 : decode cX9_setFlowWeight 38 = .ok (.invokevirtual 280, 3) := by decide +kernel
theorem dX9_setFlowWeight_41 : decode cX9_setFlowWeight 41 = .ok (.goto 8, 3) := by decide +kernel
theorem dX9_setFlowWeight_44 : decode cX9_setFlowWeight 44 = .ok (.aload_n 0, 1) := by decide +kernel
theorem dX9_setFlowWeight_45 : decode cX9_setFlowWeight 45 = .ok (.iconst 2, 1) := by decide +kernel
theorem dX9_setFlowWeight_46 : decode cX9_setFlowWeight 46 = .ok (.invokevirtual 189, 3) := by decide +kernel
theorem dX9_setFlowWeight_49 : decode cX9_setFlowWeight 49 = .ok (.ireturn, 1) := by decide +kernel
theorem dX9_setNodeWeight_0 : decode cX9_setNodeWeight 0 = .ok (.aload_n 0, 1) := by decide +kernel
theorem dX9_setNodeWeight_1 : decode cX9_setNodeWeight 1 = .ok (.iconst 0, 1) := by decide +kernel
theorem dX9_setNodeWeight_2 : decode cX9_setNodeWeight 2 = .ok (.putfield 61, 3) := by decide +kernel
theorem dX9_setNodeWeight_5 : decode cX9_setNodeWeight 5 = .ok (.aload_n 0, 1) := by decide +kernel
theorem dX9_setNodeWeight_6 : decode cX9_setNodeWeight 6 = .ok (.iload_n 1, 1) := by decide +kernel
theorem dX9_setNodeWeight_7 : decode cX9_setNodeWeight 7 = .ok (.invokevirtual 269, 3) := by decide +kernel
theorem dX9_setNodeWeight_10 : decode cX9_setNodeWeight 10 = .ok (.ifCond .ne 9, 3) := by decide +kernel
theorem dX9_setNodeWeight_13 : decode cX9_setNodeWeight 13 = .ok (.aload_n 0, 1) := by decide +kernel
theorem dX9_setNodeWeight_14 : decode cX9_setNodeWeight 14 = .ok (.iconst 1, 1) := by decide +kernel
theorem dX9_setNodeWeight_15 : decode cX9_setNodeWeight 15 = .ok (.invokevirtual 189, 3) := by decide +kernel
theorem dX9_setNodeWeight_18 : decode cX9_setNodeWeight 18 = .ok (.ireturn, 1) := by decide +kernel
theorem dX9_setNodeWeight_19 : decode cX9_setNodeWeight 19 = .ok (.iload_n 2, 1) := by decide +kernel
theorem dX9_setNodeWeight_20 : decode cX9_setNodeWeight 20 = .ok (.i2l, 1) := by decide +kernel
theorem dX9_setNodeWeight_21 : decode cX9_setNodeWeight 21 = .ok (.lconst 1, 1) := by decide +kernel
theorem dX9_setNodeWeight_22 : decode cX9_setNodeWeight 22 = .ok (.ldc2_w 278, 3) := by decide +kernel
theorem dX9_setNodeWeight_25 : decode cX9_setNodeWeight 25 = .ok (.invokestatic 79, 3) := by decide +kernel
theorem dX9_setNodeWeight_28 : decode cX9_setNodeWeight 28 = .ok (.ifCond .eq 17, 3) := by decide +kernel
theorem dX9_setNodeWeight_31 : decode cX9_setNodeWeight 31 = .ok (.aload_n 0, 1) := by decide +kernel
theorem dX9_setNodeWeight_32 : decode cX9_setNodeWeight 32 = .ok (.iload_n 1, 1) := by decide +kernel
theorem dX9_setNodeWeight_33 : decode cX9_setNodeWeight 33 = .ok (.invokestatic 176, 3) := by decide +kernel
theorem dX9_setNodeWeight_36 : decode cX9_setNodeWeight 36 = .ok (.iconst 5, 1) := by decide +kernel
theorem dX9_setNodeWeight_37 : decode cX9_setNodeWeight 37 = .ok (.iadd, 1) := by decide +kernel
theorem dX9_setNodeWeight_38 : decode cX9_setNodeWeight 38 = .ok (.iload_n 2, 1) := by decide +kernel
theorem dX9_setNodeWeight_39 : decode cX9_setNodeWeight 39 = .ok (.invokevirtual 280, 3) := by decide +kernel
theorem dX9_setNodeWeight_42 : decode cX9_setNodeWeight 42 = .ok (.goto 8, 3) := by decide +kernel
theorem dX9_setNodeWeight_45 : decode cX9_setNodeWeight 45 = .ok (.aload_n 0, 1) := by decide +kernel
theorem dX9_setNodeWeight_46 : decode cX9_setNodeWeight 46 = .ok (.iconst 2, 1) := by decide +kernel
theorem dX9_setNodeWeight_47 : decode cX9_setNodeWeight 47 = .ok (.invokevirtual 189, 3) := by decide +kernel
theorem dX9_setNodeWeight_50 : decode cX9_setNodeWeight 50 = .ok (.ireturn, 1) := by decide +kernel
theorem dX9_assign_0 : decode cX9_assign 0 = .ok (.aload_n 0, 1) := by decide +kernel
theorem dX9_assign_1 : decode cX9_assign 1 = .ok (.iconst 0, 1) := by decide +kernel
theorem dX9_assign_2 : decode cX9_assign 2 = .ok (.putfield 61, 3) := by decide +kernel
theorem dX9_assign_5 : decode cX9_assign 5 = .ok (.iload_n 1, 1) := by decide +kernel
theorem dX9_assign_6 : decode cX9_assign 6 = .ok (.invokestatic 275, 3) := by decide +kernel
theorem dX9_assign_9 : decode cX9_assign 9 = .ok (.ifCond .eq 11, 3) := by decide +kernel
theorem dX9_assign_12 : decode cX9_assign 12 = .ok (.aload_n 0, 1) := by decide +kernel
theorem dX9_assign_13 : decode cX9_assign 13 = .ok (.iload_n 2, 1) := by decide +kernel
theorem dX9_assign_14 : decode cX9_assign 14 = .ok (.invokevirtual 269, 3) := by decide +kernel
theorem dX9_assign_17 : decode cX9_assign 17 = .ok (.ifCond .ne 9, 3) := by decide +kernel
theorem dX9_assign_20 : decode cX9_assign 20 = .ok (.aload_n 0, 1) := by decide +kernel
theorem dX9_assign_21 : decode cX9_assign 21 = .ok (.iconst 1, 1) := by decide +kernel
theorem dX9_assign_22 : decode cX9_assign 22 = .ok (.invokevirtual 189, 3) := by decide +kernel
theorem dX9_assign_25 : decode cX9_assign 25 = .ok (.ireturn, 1) := by decide +kernel
theorem dX9_assign_26 : decode cX9_assign 26 = .ok (.aload_n 0, 1) := by decide +kernel
theorem dX9_assign_27 : decode cX9_assign 27 = .ok (.iload_n 2, 1) := by decide +kernel
theorem dX9_assign_28 : decode cX9_assign 28 = .ok (.invokevirtual 182, 3) := by decide +kernel
theorem dX9_assign_31 : decode cX9_assign 31 = .ok (.ifCond .eq 17, 3) := by decide +kernel
theorem dX9_assign_34 : decode cX9_assign 34 = .ok (.aload_n 0, 1) := by decide +kernel
theorem dX9_assign_35 : decode cX9_assign 35 = .ok (.iload_n 1, 1) := by decide +kernel
theorem dX9_assign_36 : decode cX9_assign 36 = .ok (.invokestatic 179, 3) := by decide +kernel
theorem dX9_assign_39 : decode cX9_assign 39 = .ok (.iconst 1, 1) := by decide +kernel
theorem dX9_assign_40 : decode cX9_assign 40 = .ok (.iadd, 1) := by decide +kernel
theorem dX9_assign_41 : decode cX9_assign 41 = .ok (.iload_n 2, 1) := by decide +kernel
theorem dX9_assign_42 : decode cX9_assign 42 = .ok (.invokevirtual 280, 3) := by decide +kernel
theorem dX9_assign_45 : decode cX9_assign 45 = .ok (.goto 8, 3) := by decide +kernel
theorem dX9_assign_48 : decode cX9_assign 48 = .ok (.aload_n 0, 1) := by decide +kernel
theorem dX9_assign_49 : decode cX9_assign 49 = .ok (.iconst 2, 1) := by decide +kernel
theorem dX9_assign_50 : decode cX9_assign 50 = .ok (.invokevirtual 189, 3) := by decide +kernel
theorem dX9_assign_53 : decode cX9_assign 53 = .ok (.ireturn, 1) := by decide +kernel
theorem dX9_ofFlow_0 : decode cX9_ofFlow 0 = .ok (.aload_n 0, 1) := by decide +kernel
theorem dX9_ofFlow_1 : decode cX9_ofFlow 1 = .ok (.iload_n 1, 1) := by decide +kernel
theorem dX9_ofFlow_2 : decode cX9_ofFlow 2 = .ok (.invokestatic 275, 3) := by decide +kernel
theorem dX9_ofFlow_5 : decode cX9_ofFlow 5 = .ok (.ifCond .eq 7, 3) := by decide +kernel
theorem dX9_ofFlow_8 : decode cX9_ofFlow 8 = .ok (.iconst 0, 1) := by decide +kernel
theorem dX9_ofFlow_9 : decode cX9_ofFlow 9 = .ok (.goto 4, 3) := by decide +kernel
theorem dX9_ofFlow_12 : decode cX9_ofFlow 12 = .ok (.iconst 1, 1) := by decide +kernel
theorem dX9_ofFlow_13 : decode cX9_ofFlow 13 = .ok (.putfield 61, 3) := by decide +kernel
theorem dX9_ofFlow_16 : decode cX9_ofFlow 16 = .ok (.iload_n 1, 1) := by decide +kernel
theorem dX9_ofFlow_17 : decode cX9_ofFlow 17 = .ok (.invokestatic 275, 3) := by decide +kernel
theorem dX9_ofFlow_20 : decode cX9_ofFlow 20 = .ok (.ifCond .eq 18, 3) := by decide +kernel
theorem dX9_ofFlow_23 : decode cX9_ofFlow 23 = .ok (.aload_n 0, 1) := by decide +kernel
theorem dX9_ofFlow_24 : decode cX9_ofFlow 24 = .ok (.getfield 7, 3) := by decide +kernel
theorem dX9_ofFlow_27 : decode cX9_ofFlow 27 = .ok (.iload_n 1, 1) := by decide +kernel
theorem dX9_ofFlow_28 : decode cX9_ofFlow 28 = .ok (.invokestatic 179, 3) := by decide +kernel
theorem dX9_ofFlow_31 : decode cX9_ofFlow 31 = .ok (.iload_n 2, 1) := by decide +kernel
theorem dX9_ofFlow_32 : decode cX9_ofFlow 32 = .ok (.iadd, 1) := by decide +kernel
theorem dX9_ofFlow_33 : decode cX9_ofFlow 33 = .ok (.laload, 1) := by decide +kernel
theorem dX9_ofFlow_34 : decode cX9_ofFlow 34 = .ok (.l2i, 1) := by decide +kernel
theorem dX9_ofFlow_35 : decode cX9_ofFlow 35 = .ok (.goto 4, 3) := by decide +kernel
theorem dX9_ofFlow_38 : decode cX9_ofFlow 38 = .ok (.iconst 0, 1) := by decide +kernel
theorem dX9_ofFlow_39 : decode cX9_ofFlow 39 = .ok (.ireturn, 1) := by decide +kernel
theorem dX9_leafOf_0 : decode cX9_leafOf 0 = .ok (.aload_n 0, 1) := by decide +kernel
theorem dX9_leafOf_1 : decode cX9_leafOf 1 = .ok (.iload_n 1, 1) := by decide +kernel
theorem dX9_leafOf_2 : decode cX9_leafOf 2 = .ok (.iconst 1, 1) := by decide +kernel
theorem dX9_leafOf_3 : decode cX9_leafOf 3 = .ok (.invokevirtual 283, 3) := by decide +kernel
theorem dX9_leafOf_6 : decode cX9_leafOf 6 = .ok (.ireturn, 1) := by decide +kernel
theorem dX9_setLinkRate_0 : decode cX9_setLinkRate 0 = .ok (.aload_n 0, 1) := by decide +kernel
theorem dX9_setLinkRate_1 : decode cX9_setLinkRate 1 = .ok (.iconst 0, 1) := by decide +kernel
theorem dX9_setLinkRate_2 : decode cX9_setLinkRate 2 = .ok (.putfield 61, 3) := by decide +kernel
theorem dX9_setLinkRate_5 : decode cX9_setLinkRate 5 = .ok (.iload_n 1, 1) := by decide +kernel
theorem dX9_setLinkRate_6 : decode cX9_setLinkRate 6 = .ok (.i2l, 1) := by decide +kernel
theorem dX9_setLinkRate_7 : decode cX9_setLinkRate 7 = .ok (.lconst 1, 1) := by decide +kernel
theorem dX9_setLinkRate_8 : decode cX9_setLinkRate 8 = .ok (.ldc2_w 48, 3) := by decide +kernel
theorem dX9_setLinkRate_11 : decode cX9_setLinkRate 11 = .ok (.invokestatic 79, 3) := by decide +kernel
theorem dX9_setLinkRate_14 : decode cX9_setLinkRate 14 = .ok (.ifCond .eq 12, 3) := by decide +kernel
theorem dX9_setLinkRate_17 : decode cX9_setLinkRate 17 = .ok (.aload_n 0, 1) := by decide +kernel
theorem dX9_setLinkRate_18 : decode cX9_setLinkRate 18 = .ok (.iconst 1, 1) := by decide +kernel
theorem dX9_setLinkRate_19 : decode cX9_setLinkRate 19 = .ok (.iload_n 1, 1) := by decide +kernel
theorem dX9_setLinkRate_20 : decode cX9_setLinkRate 20 = .ok (.invokevirtual 280, 3) := by decide +kernel
theorem dX9_setLinkRate_23 : decode cX9_setLinkRate 23 = .ok (.goto 8, 3) := by decide +kernel
theorem dX9_setLinkRate_26 : decode cX9_setLinkRate 26 = .ok (.aload_n 0, 1) := by decide +kernel
theorem dX9_setLinkRate_27 : decode cX9_setLinkRate 27 = .ok (.iconst 1, 1) := by decide +kernel
theorem dX9_setLinkRate_28 : decode cX9_setLinkRate 28 = .ok (.invokevirtual 189, 3) := by decide +kernel
theorem dX9_setLinkRate_31 : decode cX9_setLinkRate 31 = .ok (.ireturn, 1) := by decide +kernel
theorem dX9_isPacketLike_0 : decode cX9_isPacketLike 0 = .ok (.iload_n 0, 1) := by decide +kernel
theorem dX9_isPacketLike_1 : decode cX9_isPacketLike 1 = .ok (.i2l, 1) := by decide +kernel
theorem dX9_isPacketLike_2 : decode cX9_isPacketLike 2 = .ok (.lconst 1, 1) := by decide +kernel
theorem dX9_isPacketLike_3 : decode cX9_isPacketLike 3 = .ok (.ldc2_w 286, 3) := by decide +kernel
theorem dX9_isPacketLike_6 : decode cX9_isPacketLike 6 = .ok (.invokestatic 79, 3) := by decide +kernel
theorem dX9_isPacketLike_9 : decode cX9_isPacketLike 9 = .ok (.ifCond .eq 31, 3) := by decide +kernel
theorem dX9_isPacketLike_12 : decode cX9_isPacketLike 12 = .ok (.iload_n 1, 1) := by decide +kernel
theorem dX9_isPacketLike_13 : decode cX9_isPacketLike 13 = .ok (.i2l, 1) := by decide +kernel
theorem dX9_isPacketLike_14 : decode cX9_isPacketLike 14 = .ok (.lconst 0, 1) := by decide +kernel
theorem dX9_isPacketLike_15 : decode cX9_isPacketLike 15 = .ok (.ldc2_w 288, 3) := by decide +kernel
theorem dX9_isPacketLike_18 : decode cX9_isPacketLike 18 = .ok (.invokestatic 79, 3) := by decide +kernel
theorem dX9_isPacketLike_21 : decode cX9_isPacketLike 21 = .ok (.ifCond .eq 19, 3) := by decide +kernel
theorem dX9_isPacketLike_24 : decode cX9_isPacketLike 24 = .ok (.iload_n 2, 1) := by decide +kernel
theorem dX9_isPacketLike_25 : decode cX9_isPacketLike 25 = .ok (.i2l, 1) := by decide +kernel
theorem dX9_isPacketLike_26 : decode cX9_isPacketLike 26 = .ok (.lconst 0, 1) := by decide +kernel
theorem dX9_isPacketLike_27 : decode cX9_isPacketLike 27 = .ok (.ldc2_w 290, 3) := by decide +kernel
theorem dX9_isPacketLike_30 : decode cX9_isPacketLike 30 = .ok (.invokestatic 79, 3) := by decide +kernel
theorem dX9_isPacketLike_33 : decode cX9_isPacketLike 33 = .ok (.ifCond .eq 7, 3) := by decide +kernel
theorem dX9_isPacketLike_36 : decode cX9_isPacketLike 36 = .ok (.iconst 1, 1) := by decide +kernel
theorem dX9_isPacketLike_37 : decode cX9_isPacketLike 37 = .ok (.goto 4, 3) := by decide +kernel
theorem dX9_isPacketLike_40 : decode cX9_isPacketLike 40 = .ok (.iconst 0, 1) := by decide +kernel
theorem dX9_isPacketLike_41 : decode cX9_isPacketLike 41 = .ok (.ireturn, 1) := by decide +kernel
theorem dX9_enqueue_0 : decode cX9_enqueue 0 = .ok (.aload_n 0, 1) := by decide +kernel
theorem dX9_enqueue_1 : decode cX9_enqueue 1 = .ok (.iconst 0, 1) := by decide +kernel
theorem dX9_enqueue_2 : decode cX9_enqueue 2 = .ok (.putfield 61, 3) := by decide +kernel
theorem dX9_enqueue_5 : decode cX9_enqueue 5 = .ok (.iload_n 1, 1) := by decide +kernel
theorem dX9_enqueue_6 : decode cX9_enqueue 6 = .ok (.invokestatic 275, 3) := by decide +kernel
theorem dX9_enqueue_9 : decode cX9_enqueue 9 = .ok (.ifCond .ne 9, 3) := by decide +kernel
theorem dX9_enqueue_12 : decode cX9_enqueue 12 = .ok (.aload_n 0, 1) := by decide +kernel
theorem dX9_enqueue_13 : decode cX9_enqueue 13 = .ok (.iconst 1, 1) := by decide +kernel
theorem dX9_enqueue_14 : decode cX9_enqueue 14 = .ok (.invokevirtual 189, 3) := by decide +kernel
theorem dX9_enqueue_17 : decode cX9_enqueue 17 = .ok (.ireturn, 1) := by decide +kernel
theorem dX9_enqueue_18 : decode cX9_enqueue 18 = .ok (.iload_n 2, 1) := by decide +kernel
theorem dX9_enqueue_19 : decode cX9_enqueue 19 = .ok (.iload_n 3, 1) := by decide +kernel
theorem dX9_enqueue_20 : decode cX9_enqueue 20 = .ok (.iload 4, 2) := by decide +kernel
theorem dX9_enqueue_22 : decode cX9_enqueue 22 = .ok (.invokestatic 292, 3) := by decide +kernel
theorem dX9_enqueue_25 : decode cX9_enqueue 25 = .ok (.ifCond .ne 9, 3) := by decide +kernel
theorem dX9_enqueue_28 : decode cX9_enqueue 28 = .ok (.aload_n 0, 1) := by decide +kernel
theorem dX9_enqueue_29 : decode cX9_enqueue 29 = .ok (.iconst 2, 1) := by decide +kernel
theorem dX9_enqueue_30 : decode cX9_enqueue 30 = .ok (.invokevirtual 189, 3) := by decide +kernel
theorem dX9_enqueue_33 : decode cX9_enqueue 33 = .ok (.ireturn, 1) := by decide +kernel
theorem dX9_enqueue_34 : decode cX9_enqueue 34 = .ok (.aload_n 0, 1) := by decide +kernel
theorem dX9_enqueue_35 : decode cX9_enqueue 35 = .ok (.getfield 7, 3) := by decide +kernel
theorem dX9_enqueue_38 : decode cX9_enqueue 38 = .ok (.bipush 7, 2) := by decide +kernel
theorem dX9_enqueue_40 : decode cX9_enqueue 40 = .ok (.laload, 1) := by decide +kernel
theorem dX9_enqueue_41 : decode cX9_enqueue 41 = .ok (.ldc2_w 295, 3) := by decide +kernel
theorem dX9_enqueue_44 : decode cX9_enqueue 44 = .ok (.lcmp, 1) := by decide +kernel
theorem dX9_enqueue_45 : decode cX9_enqueue 45 = .ok (.ifCond .eq 16, 3) := by decide +kernel
theorem dX9_enqueue_48 : decode cX9_enqueue 48 = .ok (.aload_n 0, 1) := by decide +kernel
theorem dX9_enqueue_49 : decode cX9_enqueue 49 = .ok (.getfield 7, 3) := by decide +kernel
theorem dX9_enqueue_52 : decode cX9_enqueue 52 = .ok (.iconst 3, 1) := by decide +kernel
theorem dX9_enqueue_53 : decode cX9_enqueue 53 = .ok (.laload, 1) := by decide +kernel
theorem dX9_enqueue_54 : decode cX9_enqueue 54 = .ok (.ldc2_w 297, 3) := by decide +kernel
theorem dX9_enqueue_57 : decode cX9_enqueue 57 = .ok (.lcmp, 1) := by decide +kernel
theorem dX9_enqueue_58 : decode cX9_enqueue 58 = .ok (.ifCond .ne 9, 3) := by decide +kernel
theorem dX9_enqueue_61 : decode cX9_enqueue 61 = .ok (.aload_n 0, 1) := by decide +kernel
theorem dX9_enqueue_62 : decode cX9_enqueue 62 = .ok (.iconst 3, 1) := by decide +kernel
theorem dX9_enqueue_63 : decode cX9_enqueue 63 = .ok (.invokevirtual 189, 3) := by decide +kernel
theorem dX9_enqueue_66 : decode cX9_enqueue 66 = .ok (.ireturn, 1) := by decide +kernel
theorem dX9_enqueue_67 : decode cX9_enqueue 67 = .ok (.aload_n 0, 1) := by decide +kernel
theorem dX9_enqueue_68 : decode cX9_enqueue 68 = .ok (.getfield 7, 3) := by decide +kernel
theorem dX9_enqueue_71 : decode cX9_enqueue 71 = .ok (.iconst 3, 1) := by decide +kernel
theorem dX9_enqueue_72 : decode cX9_enqueue 72 = .ok (.laload, 1) := by decide +kernel
theorem dX9_enqueue_73 : decode cX9_enqueue 73 = .ok (.l2i, 1) := by decide +kernel
theorem dX9_enqueue_74 : decode cX9_enqueue 74 = .ok (.istore 5, 2) := by decide +kernel
theorem dX9_enqueue_76 : decode cX9_enqueue 76 = .ok (.aload_n 0, 1) := by decide +kernel
theorem dX9_enqueue_77 : decode cX9_enqueue 77 = .ok (.getfield 7, 3) := by decide +kernel
theorem dX9_enqueue_80 : decode cX9_enqueue 80 = .ok (.iload 5, 2) := by decide +kernel
theorem dX9_enqueue_82 : decode cX9_enqueue 82 = .ok (.invokestatic 201, 3) := by decide +kernel
theorem dX9_enqueue_85 : decode cX9_enqueue 85 = .ok (.iconst 0, 1) := by decide +kernel
theorem dX9_enqueue_86 : decode cX9_enqueue 86 = .ok (.iadd, 1) := by decide +kernel
theorem dX9_enqueue_87 : decode cX9_enqueue 87 = .ok (.iload_n 1, 1) := by decide +kernel
theorem dX9_enqueue_88 : decode cX9_enqueue 88 = .ok (.i2l, 1) := by decide +kernel
theorem dX9_enqueue_89 : decode cX9_enqueue 89 = .ok (.lastore, 1) := by decide +kernel
theorem dX9_enqueue_90 : decode cX9_enqueue 90 = .ok (.aload_n 0, 1) := by decide +kernel
theorem dX9_enqueue_91 : decode cX9_enqueue 91 = .ok (.getfield 7, 3) := by decide +kernel
theorem dX9_enqueue_94 : decode cX9_enqueue 94 = .ok (.iload 5, 2) := by decide +kernel
theorem dX9_enqueue_96 : decode cX9_enqueue 96 = .ok (.invokestatic 201, 3) := by decide +kernel
theorem dX9_enqueue_99 : decode cX9_enqueue 99 = .ok (.iconst 1, 1) := by decide +kernel
theorem dX9_enqueue_100 : decode cX9_enqueue 100 = .ok (.iadd, 1) := by decide +kernel
theorem dX9_enqueue_101 : decode cX9_enqueue 101 = .ok (.iload_n 2, 1) := by decide +kernel
theorem dX9_enqueue_102 : decode cX9_enqueue 102 = .ok (.i2l, 1) := by decide +kernel
theorem dX9_enqueue_103 : decode cX9_enqueue 103 = .ok (.lastore, 1) := by decide +kernel
theorem dX9_enqueue_104 : decode cX9_enqueue 104 = .ok (.aload_n 0, 1) := by decide +kernel
theorem dX9_enqueue_105 : decode cX9_enqueue 105 = .ok (.getfield 7, 3) := by decide +kernel
theorem dX9_enqueue_108 : decode cX9_enqueue 108 = .ok (.iload 5, 2) := by decide +kernel
theorem dX9_enqueue_110 : decode cX9_enqueue 110 = .ok (.invokestatic 201, 3) := by decide +kernel
theorem dX9_enqueue_113 : decode cX9_enqueue 113 = .ok (.iconst 2, 1) := by decide +kernel
theorem dX9_enqueue_114 : decode cX9_enqueue 114 = .ok (.iadd, 1) := by decide +kernel
theorem dX9_enqueue_115 : decode cX9_enqueue 115 = .ok (.iload_n 3, 1) := by decide +kernel
theorem dX9_enqueue_116 : decode cX9_enqueue 116 = .ok (.i2l, 1) := by decide +kernel
theorem dX9_enqueue_117 : decode cX9_enqueue 117 = .ok (.lastore, 1) := by decide +kernel
theorem dX9_enqueue_118 : decode cX9_enqueue 118 = .ok (.aload_n 0, 1) := by decide +kernel
theorem dX9_enqueue_119 : decode cX9_enqueue 119 = .ok (.getfield 7, 3) := by decide +kernel
theorem dX9_enqueue_122 : decode cX9_enqueue 122 = .ok (.iload 5, 2) := by decide +kernel
theorem dX9_enqueue_124 : decode cX9_enqueue 124 = .ok (.invokestatic 201, 3) := by decide +kernel
theorem dX9_enqueue_127 : decode cX9_enqueue 127 = .ok (.iconst 3, 1) := by decide +kernel
theorem dX9_enqueue_128 : decode cX9_enqueue 128 = .ok (.iadd, 1) := by decide +kernel
theorem dX9_enqueue_129 : decode cX9_enqueue 129 = .ok (.aload_n 0, 1) := by decide +kernel
theorem dX9_enqueue_130 : decode cX9_enqueue 130 = .ok (.getfield 7, 3) := by decide +kernel
theorem dX9_enqueue_133 : decode cX9_enqueue 133 = .ok (.iconst 0, 1) := by decide +kernel
theorem dX9_enqueue_134 : decode cX9_enqueue 134 = .ok (.laload, 1) := by decide +kernel
theorem dX9_enqueue_135 : decode cX9_enqueue 135 = .ok (.lastore, 1) := by decide +kernel
theorem dX9_enqueue_136 : decode cX9_enqueue 136 = .ok (.aload_n 0, 1) := by decide +kernel
theorem dX9_enqueue_137 : decode cX9_enqueue 137 = .ok (.getfield 7, 3) := by decide +kernel
theorem dX9_enqueue_140 : decode cX9_enqueue 140 = .ok (.iload 5, 2) := by decide +kernel
theorem dX9_enqueue_142 : decode cX9_enqueue 142 = .ok (.invokestatic 201, 3) := by decide +kernel
theorem dX9_enqueue_145 : decode cX9_enqueue 145 = .ok (.iconst 4, 1) := by decide +kernel
theorem dX9_enqueue_146 : decode cX9_enqueue 146 = .ok (.iadd, 1) := by decide +kernel
theorem dX9_enqueue_147 : decode cX9_enqueue 147 = .ok (.aload_n 0, 1) := by decide +kernel
theorem dX9_enqueue_148 : decode cX9_enqueue 148 = .ok (.getfield 7, 3) := by decide +kernel
theorem dX9_enqueue_151 : decode cX9_enqueue 151 = .ok (.iconst 0, 1) := by decide +kernel
theorem dX9_enqueue_152 : decode cX9_enqueue 152 = .ok (.laload, 1) := by decide +kernel
theorem dX9_enqueue_153 : decode cX9_enqueue 153 = .ok (.iload 4, 2) := by decide +kernel
theorem dX9_enqueue_155 : decode cX9_enqueue 155 = .ok (.i2l, 1) := by decide +kernel
theorem dX9_enqueue_156 : decode cX9_enqueue 156 = .ok (.ladd, 1) := by decide +kernel
theorem dX9_enqueue_157 : decode cX9_enqueue 157 = .ok (.lastore, 1) := by decide +kernel
theorem dX9_enqueue_158 : decode cX9_enqueue 158 = .ok (.aload_n 0, 1) := by decide +kernel
theorem dX9_enqueue_159 : decode cX9_enqueue 159 = .ok (.getfield 7, 3) := by decide +kernel
theorem dX9_enqueue_162 : decode cX9_enqueue 162 = .ok (.iload 5, 2) := by decide +kernel
theorem dX9_enqueue_164 : decode cX9_enqueue 164 = .ok (.invokestatic 201, 3) := by decide +kernel
theorem dX9_enqueue_167 : decode cX9_enqueue 167 = .ok (.iconst 5, 1) := by decide +kernel
theorem dX9_enqueue_168 : decode cX9_enqueue 168 = .ok (.iadd, 1) := by decide +kernel
theorem dX9_enqueue_169 : decode cX9_enqueue 169 = .ok (.ldc2_w 86, 3) := by decide +kernel
theorem dX9_enqueue_172 : decode cX9_enqueue 172 = .ok (.lastore, 1) := by decide +kernel
theorem dX9_enqueue_173 : decode cX9_enqueue 173 = .ok (.aload_n 0, 1) := by decide +kernel
theorem dX9_enqueue_174 : decode cX9_enqueue 174 = .ok (.getfield 7, 3) := by decide +kernel
theorem dX9_enqueue_177 : decode cX9_enqueue 177 = .ok (.iload 5, 2) := by decide +kernel
theorem dX9_enqueue_179 : decode cX9_enqueue 179 = .ok (.invokestatic 201, 3) := by decide +kernel
theorem dX9_enqueue_182 : decode cX9_enqueue 182 = .ok (.bipush 6, 2) := by decide +kernel
theorem dX9_enqueue_184 : decode cX9_enqueue 184 = .ok (.iadd, 1) := by decide +kernel
theorem dX9_enqueue_185 : decode cX9_enqueue 185 = .ok (.lconst 1, 1) := by decide +kernel
theorem dX9_enqueue_186 : decode cX9_enqueue 186 = .ok (.lastore, 1) := by decide +kernel
theorem dX9_enqueue_187 : decode cX9_enqueue 187 = .ok (.aload_n 0, 1) := by decide +kernel
theorem dX9_enqueue_188 : decode cX9_enqueue 188 = .ok (.getfield 7, 3) := by decide +kernel
theorem dX9_enqueue_191 : decode cX9_enqueue 191 = .ok (.iconst 3, 1) := by decide +kernel
theorem dX9_enqueue_192 : decode cX9_enqueue 192 = .ok (.dup2, 1) := by decide +kernel
theorem dX9_enqueue_193 : decode cX9_enqueue 193 = .ok (.laload, 1) := by decide +kernel
theorem dX9_enqueue_194 : decode cX9_enqueue 194 = .ok (.lconst 1, 1) := by decide +kernel
theorem dX9_enqueue_195 : decode cX9_enqueue 195 = .ok (.ladd, 1) := by decide +kernel
theorem dX9_enqueue_196 : decode cX9_enqueue 196 = .ok (.lastore, 1) := by decide +kernel
theorem dX9_enqueue_197 : decode cX9_enqueue 197 = .ok (.aload_n 0, 1) := by decide +kernel
theorem dX9_enqueue_198 : decode cX9_enqueue 198 = .ok (.getfield 7, 3) := by decide +kernel
theorem dX9_enqueue_201 : decode cX9_enqueue 201 = .ok (.bipush 7, 2) := by decide +kernel
theorem dX9_enqueue_203 : decode cX9_enqueue 203 = .ok (.dup2, 1) := by decide +kernel
theorem dX9_enqueue_204 : decode cX9_enqueue 204 = .ok (.laload, 1) := by decide +kernel
theorem dX9_enqueue_205 : decode cX9_enqueue 205 = .ok (.lconst 1, 1) := by decide +kernel
theorem dX9_enqueue_206 : decode cX9_enqueue 206 = .ok (.ladd, 1) := by decide +kernel
theorem dX9_enqueue_207 : decode cX9_enqueue 207 = .ok (.lastore, 1) := by decide +kernel
theorem dX9_enqueue_208 : decode cX9_enqueue 208 = .ok (.aload_n 0, 1) := by decide +kernel
theorem dX9_enqueue_209 : decode cX9_enqueue 209 = .ok (.getfield 7, 3) := by decide +kernel
theorem dX9_enqueue_212 : decode cX9_enqueue 212 = .ok (.iload_n 1, 1) := by decide +kernel
theorem dX9_enqueue_213 : decode cX9_enqueue 213 = .ok (.invokestatic 179, 3) := by decide +kernel
theorem dX9_enqueue_216 : decode cX9_enqueue 216 = .ok (.iconst 1, 1) := by decide +kernel
theorem dX9_enqueue_217 : decode cX9_enqueue 217 = .ok (.iadd, 1) := by decide +kernel
theorem dX9_enqueue_218 : decode cX9_enqueue 218 = .ok (.laload, 1) := by decide +kernel
theorem dX9_enqueue_219 : decode cX9_enqueue 219 = .ok (.l2i, 1) := by decide +kernel
theorem dX9_enqueue_220 : decode cX9_enqueue 220 = .ok (.istore 6, 2) := by decide +kernel
theorem dX9_enqueue_222 : decode cX9_enqueue 222 = .ok (.aload_n 0, 1) := by decide +kernel
theorem dX9_enqueue_223 : decode cX9_enqueue 223 = .ok (.iload 6, 2) := by decide +kernel
theorem dX9_enqueue_225 : decode cX9_enqueue 225 = .ok (.iload 5, 2) := by decide +kernel
theorem dX9_enqueue_227 : decode cX9_enqueue 227 = .ok (.iload_n 1, 1) := by decide +kernel
theorem dX9_enqueue_228 : decode cX9_enqueue 228 = .ok (.aload_n 0, 1) := by decide +kernel
theorem dX9_enqueue_229 : decode cX9_enqueue 229 = .ok (.getfield 7, 3) := by decide +kernel
theorem dX9_enqueue_232 : decode cX9_enqueue 232 = .ok (.iload_n 1, 1) := by decide +kernel
theorem dX9_enqueue_233 : decode cX9_enqueue 233 = .ok (.invokestatic 179, 3) := by decide +kernel
theorem dX9_enqueue_236 : decode cX9_enqueue 236 = .ok (.iconst 0, 1) := by decide +kernel
theorem dX9_enqueue_237 : decode cX9_enqueue 237 = .ok (.iadd, 1) := by decide +kernel
theorem dX9_enqueue_238 : decode cX9_enqueue 238 = .ok (.laload, 1) := by decide +kernel
theorem dX9_enqueue_239 : decode cX9_enqueue 239 = .ok (.iload 5, 2) := by decide +kernel
theorem dX9_enqueue_241 : decode cX9_enqueue 241 = .ok (.aload_n 0, 1) := by decide +kernel
theorem dX9_enqueue_242 : decode cX9_enqueue 242 = .ok (.getfield 7, 3) := by decide +kernel
theorem dX9_enqueue_245 : decode cX9_enqueue 245 = .ok (.iconst 0, 1) := by decide +kernel
theorem dX9_enqueue_246 : decode cX9_enqueue 246 = .ok (.laload, 1) := by decide +kernel
theorem dX9_enqueue_247 : decode cX9_enqueue 247 = .ok (.invokevirtual 223, 3) := by decide +kernel
theorem dX9_enqueue_250 : decode cX9_enqueue 250 = .ok (.aload_n 0, 1) := by decide +kernel
theorem dX9_enqueue_251 : decode cX9_enqueue 251 = .ok (.iload 6, 2) := by decide +kernel
theorem dX9_enqueue_253 : decode cX9_enqueue 253 = .ok (.iload 5, 2) := by decide +kernel
theorem dX9_enqueue_255 : decode cX9_enqueue 255 = .ok (.aload_n 0, 1) := by decide +kernel
theorem dX9_enqueue_256 : decode cX9_enqueue 256 = .ok (.getfield 7, 3) := by decide +kernel
theorem dX9_enqueue_259 : decode cX9_enqueue 259 = .ok (.iconst 0, 1) := by decide +kernel
theorem dX9_enqueue_260 : decode cX9_enqueue 260 = .ok (.laload, 1) := by decide +kernel
theorem dX9_enqueue_261 : decode cX9_enqueue 261 = .ok (.invokevirtual 235, 3) := by decide +kernel
theorem dX9_enqueue_264 : decode cX9_enqueue 264 = .ok (.iload 5, 2) := by decide +kernel
theorem dX9_enqueue_266 : decode cX9_enqueue 266 = .ok (.ireturn, 1) := by decide +kernel
theorem dX9_dequeue_0 : decode cX9_dequeue 0 = .ok (.aload_n 0, 1) := by decide +kernel
theorem dX9_dequeue_1 : decode cX9_dequeue 1 = .ok (.iconst 0, 1) := by decide +kernel
theorem dX9_dequeue_2 : decode cX9_dequeue 2 = .ok (.putfield 61, 3) := by decide +kernel
theorem dX9_dequeue_5 : decode cX9_dequeue 5 = .ok (.aload_n 0, 1) := by decide +kernel
theorem dX9_dequeue_6 : decode cX9_dequeue 6 = .ok (.invokevirtual 256, 3) := by decide +kernel
theorem dX9_dequeue_9 : decode cX9_dequeue 9 = .ok (.istore_n 1, 1) := by decide +kernel
theorem dX9_dequeue_10 : decode cX9_dequeue 10 = .ok (.iload_n 1, 1) := by decide +kernel
theorem dX9_dequeue_11 : decode cX9_dequeue 11 = .ok (.ifCond .lt 14, 3) := by decide +kernel
theorem dX9_dequeue_14 : decode cX9_dequeue 14 = .ok (.aload_n 0, 1) := by decide +kernel
theorem dX9_dequeue_15 : decode cX9_dequeue 15 = .ok (.iload_n 1, 1) := by decide +kernel
theorem dX9_dequeue_16 : decode cX9_dequeue 16 = .ok (.aload_n 0, 1) := by decide +kernel
theorem dX9_dequeue_17 : decode cX9_dequeue 17 = .ok (.getfield 7, 3) := by decide +kernel
theorem dX9_dequeue_20 : decode cX9_dequeue 20 = .ok (.iconst 0, 1) := by decide +kernel
theorem dX9_dequeue_21 : decode cX9_dequeue 21 = .ok (.laload, 1) := by decide +kernel
theorem dX9_dequeue_22 : decode cX9_dequeue 22 = .ok (.invokevirtual 259, 3) := by decide +kernel
theorem dX9_dequeue_25 : decode cX9_dequeue 25 = .ok (.iload_n 1, 1) := by decide +kernel
theorem dX9_dequeue_26 : decode cX9_dequeue 26 = .ok (.ireturn, 1) := by decide +kernel
theorem dX9_transmit_0 : decode cX9_transmit 0 = .ok (.aload_n 0, 1) := by decide +kernel
theorem dX9_transmit_1 : decode cX9_transmit 1 = .ok (.iconst 0, 1) := by decide +kernel
theorem dX9_transmit_2 : decode cX9_transmit 2 = .ok (.putfield 61, 3) := by decide +kernel
theorem dX9_transmit_5 : decode cX9_transmit 5 = .ok (.aload_n 0, 1) := by decide +kernel
theorem dX9_transmit_6 : decode cX9_transmit 6 = .ok (.invokevirtual 299, 3) := by decide +kernel
theorem dX9_transmit_9 : decode cX9_transmit 9 = .ok (.ireturn, 1) := by decide +kernel
theorem dX9_advance_0 : decode cX9_advance 0 = .ok (.aload_n 0, 1) := by decide +kernel
theorem dX9_advance_1 : decode cX9_advance 1 = .ok (.iconst 0, 1) := by decide +kernel
theorem dX9_advance_2 : decode cX9_advance 2 = .ok (.putfield 61, 3) := by decide +kernel
theorem dX9_advance_5 : decode cX9_advance 5 = .ok (.iload_n 1, 1) := by decide +kernel
theorem dX9_advance_6 : decode cX9_advance 6 = .ok (.ifCond .ge 11, 3) := by decide +kernel
theorem dX9_advance_9 : decode cX9_advance 9 = .ok (.aload_n 0, 1) := by decide +kernel
theorem dX9_advance_10 : decode cX9_advance 10 = .ok (.iconst 1, 1) := by decide +kernel
theorem dX9_advance_11 : decode cX9_advance 11 = .ok (.invokevirtual 189, 3) := by decide +kernel
theorem dX9_advance_14 : decode cX9_advance 14 = .ok (.goto 16, 3) := by decide +kernel
theorem dX9_advance_17 : decode cX9_advance 17 = .ok (.aload_n 0, 1) := by decide +kernel
theorem dX9_advance_18 : decode cX9_advance 18 = .ok (.aload_n 0, 1) := by decide +kernel
theorem dX9_advance_19 : decode cX9_advance 19 = .ok (.getfield 7, 3) := by decide +kernel
theorem dX9_advance_22 : decode cX9_advance 22 = .ok (.iconst 0, 1) := by decide +kernel
theorem dX9_advance_23 : decode cX9_advance 23 = .ok (.laload, 1) := by decide +kernel
theorem dX9_advance_24 : decode cX9_advance 24 = .ok (.iload_n 1, 1) := by decide +kernel
theorem dX9_advance_25 : decode cX9_advance 25 = .ok (.i2l, 1) := by decide +kernel
theorem dX9_advance_26 : decode cX9_advance 26 = .ok (.ladd, 1) := by decide +kernel
theorem dX9_advance_27 : decode cX9_advance 27 = .ok (.invokevirtual 263, 3) := by decide +kernel
theorem dX9_advance_30 : decode cX9_advance 30 = .ok (.ireturn, 1) := by decide +kernel
theorem dX9_time_0 : decode cX9_time 0 = .ok (.aload_n 0, 1) := by decide +kernel
theorem dX9_time_1 : decode cX9_time 1 = .ok (.iconst 0, 1) := by decide +kernel
theorem dX9_time_2 : decode cX9_time 2 = .ok (.putfield 61, 3) := by decide +kernel
theorem dX9_time_5 : decode cX9_time 5 = .ok (.aload_n 0, 1) := by decide +kernel
theorem dX9_time_6 : decode cX9_time 6 = .ok (.getfield 7, 3) := by decide +kernel
theorem dX9_time_9 : decode cX9_time 9 = .ok (.iconst 0, 1) := by decide +kernel
theorem dX9_time_10 : decode cX9_time 10 = .ok (.laload, 1) := by decide +kernel
theorem dX9_time_11 : decode cX9_time 11 = .ok (.lreturn, 1) := by decide +kernel
theorem dX9_nextRelease_0 : decode cX9_nextRelease 0 = .ok (.aload_n 0, 1) := by decide +kernel
theorem dX9_nextRelease_1 : decode cX9_nextRelease 1 = .ok (.iconst 0, 1) := by decide +kernel
theorem dX9_nextRelease_2 : decode cX9_nextRelease 2 = .ok (.putfield 61, 3) := by decide +kernel
theorem dX9_nextRelease_5 : decode cX9_nextRelease 5 = .ok (.aload_n 0, 1) := by decide +kernel
theorem dX9_nextRelease_6 : decode cX9_nextRelease 6 = .ok (.invokevirtual 232, 3) := by decide +kernel
theorem dX9_nextRelease_9 : decode cX9_nextRelease 9 = .ok (.istore_n 1, 1) := by decide +kernel
theorem dX9_nextRelease_10 : decode cX9_nextRelease 10 = .ok (.iload_n 1, 1) := by decide +kernel
theorem dX9_nextRelease_11 : decode cX9_nextRelease 11 = .ok (.ifCond .ge 9, 3) := by decide +kernel
theorem dX9_nextRelease_14 : decode cX9_nextRelease 14 = .ok (.ldc2_w 86, 3) := by decide +kernel
theorem dX9_nextRelease_17 : decode cX9_nextRelease 17 = .ok (.goto 14, 3) := by decide +kernel
theorem dX9_nextRelease_20 : decode cX9_nextRelease 20 = .ok (.aload_n 0, 1) := by decide +kernel
theorem dX9_nextRelease_21 : decode cX9_nextRelease 21 = .ok (.getfield 7, 3) := by decide +kernel
theorem dX9_nextRelease_24 : decode cX9_nextRelease 24 = .ok (.iload_n 1, 1) := by decide +kernel
theorem dX9_nextRelease_25 : decode cX9_nextRelease 25 = .ok (.invokestatic 229, 3) := by decide +kernel
theorem dX9_nextRelease_28 : decode cX9_nextRelease 28 = .ok (.iconst 0, 1) := by decide +kernel
theorem dX9_nextRelease_29 : decode cX9_nextRelease 29 = .ok (.iadd, 1) := by decide +kernel
theorem dX9_nextRelease_30 : decode cX9_nextRelease 30 = .ok (.laload, 1) := by decide +kernel
theorem dX9_nextRelease_31 : decode cX9_nextRelease 31 = .ok (.lreturn, 1) := by decide +kernel
theorem dX9_shaped_0 : decode cX9_shaped 0 = .ok (.aload_n 0, 1) := by decide +kernel
theorem dX9_shaped_1 : decode cX9_shaped 1 = .ok (.iconst 0, 1) := by decide +kernel
theorem dX9_shaped_2 : decode cX9_shaped 2 = .ok (.putfield 61, 3) := by decide +kernel
theorem dX9_shaped_5 : decode cX9_shaped 5 = .ok (.aload_n 0, 1) := by decide +kernel
theorem dX9_shaped_6 : decode cX9_shaped 6 = .ok (.getfield 7, 3) := by decide +kernel
theorem dX9_shaped_9 : decode cX9_shaped 9 = .ok (.iconst 4, 1) := by decide +kernel
theorem dX9_shaped_10 : decode cX9_shaped 10 = .ok (.laload, 1) := by decide +kernel
theorem dX9_shaped_11 : decode cX9_shaped 11 = .ok (.l2i, 1) := by decide +kernel
theorem dX9_shaped_12 : decode cX9_shaped 12 = .ok (.ireturn, 1) := by decide +kernel
theorem dX9_waiting_0 : decode cX9_waiting 0 = .ok (.aload_n 0, 1) := by decide +kernel
theorem dX9_waiting_1 : decode cX9_waiting 1 = .ok (.iconst 0, 1) := by decide +kernel
theorem dX9_waiting_2 : decode cX9_waiting 2 = .ok (.putfield 61, 3) := by decide +kernel
theorem dX9_waiting_5 : decode cX9_waiting 5 = .ok (.aload_n 0, 1) := by decide +kernel
theorem dX9_waiting_6 : decode cX9_waiting 6 = .ok (.getfield 7, 3) := by decide +kernel
theorem dX9_waiting_9 : decode cX9_waiting 9 = .ok (.bipush 7, 2) := by decide +kernel
theorem dX9_waiting_11 : decode cX9_waiting 11 = .ok (.laload, 1) := by decide +kernel
theorem dX9_waiting_12 : decode cX9_waiting 12 = .ok (.l2i, 1) := by decide +kernel
theorem dX9_waiting_13 : decode cX9_waiting 13 = .ok (.ireturn, 1) := by decide +kernel
theorem dX9_queueLength_0 : decode cX9_queueLength 0 = .ok (.aload_n 0, 1) := by decide +kernel
theorem dX9_queueLength_1 : decode cX9_queueLength 1 = .ok (.iload_n 1, 1) := by decide +kernel
theorem dX9_queueLength_2 : decode cX9_queueLength 2 = .ok (.bipush 11, 2) := by decide +kernel
theorem dX9_queueLength_4 : decode cX9_queueLength 4 = .ok (.invokevirtual 272, 3) := by decide +kernel
theorem dX9_queueLength_7 : decode cX9_queueLength 7 = .ok (.ireturn, 1) := by decide +kernel
theorem dX9_hasElement_0 : decode cX9_hasElement 0 = .ok (.aload_n 0, 1) := by decide +kernel
theorem dX9_hasElement_1 : decode cX9_hasElement 1 = .ok (.iload_n 1, 1) := by decide +kernel
theorem dX9_hasElement_2 : decode cX9_hasElement 2 = .ok (.invokevirtual 269, 3) := by decide +kernel
theorem dX9_hasElement_5 : decode cX9_hasElement 5 = .ok (.ifCond .eq 30, 3) := by decide +kernel
theorem dX9_hasElement_8 : decode cX9_hasElement 8 = .ok (.iload_n 2, 1) := by decide +kernel
theorem dX9_hasElement_9 : decode cX9_hasElement 9 = .ok (.i2l, 1) := by decide +kernel
theorem dX9_hasElement_10 : decode cX9_hasElement 10 = .ok (.lconst 0, 1) := by decide +kernel
theorem dX9_hasElement_11 : decode cX9_hasElement 11 = .ok (.aload_n 0, 1) := by decide +kernel
theorem dX9_hasElement_12 : decode cX9_hasElement 12 = .ok (.getfield 7, 3) := by decide +kernel
theorem dX9_hasElement_15 : decode cX9_hasElement 15 = .ok (.iload_n 1, 1) := by decide +kernel
theorem dX9_hasElement_16 : decode cX9_hasElement 16 = .ok (.invokestatic 176, 3) := by decide +kernel
theorem dX9_hasElement_19 : decode cX9_hasElement 19 = .ok (.bipush 11, 2) := by decide +kernel
theorem dX9_hasElement_21 : decode cX9_hasElement 21 = .ok (.iadd, 1) := by decide +kernel
theorem dX9_hasElement_22 : decode cX9_hasElement 22 = .ok (.laload, 1) := by decide +kernel
theorem dX9_hasElement_23 : decode cX9_hasElement 23 = .ok (.lconst 1, 1) := by decide +kernel
theorem dX9_hasElement_24 : decode cX9_hasElement 24 = .ok (.lsub, 1) := by decide +kernel
theorem dX9_hasElement_25 : decode cX9_hasElement 25 = .ok (.invokestatic 79, 3) := by decide +kernel
theorem dX9_hasElement_28 : decode cX9_hasElement 28 = .ok (.ifCond .eq 7, 3) := by decide +kernel
theorem dX9_hasElement_31 : decode cX9_hasElement 31 = .ok (.iconst 1, 1) := by decide +kernel
theorem dX9_hasElement_32 : decode cX9_hasElement 32 = .ok (.goto 4, 3) := by decide +kernel
theorem dX9_hasElement_35 : decode cX9_hasElement 35 = .ok (.iconst 0, 1) := by decide +kernel
theorem dX9_hasElement_36 : decode cX9_hasElement 36 = .ok (.istore_n 3, 1) := by decide +kernel
theorem dX9_hasElement_37 : decode cX9_hasElement 37 = .ok (.aload_n 0, 1) := by decide +kernel
