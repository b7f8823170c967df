theorem dX0_init_0 : decode cX0_init 0 = .ok (.aload_n 0, 1) := by decide +kernel
theorem dX0_init_1 : decode cX0_init 1 = .ok (.invokespecial 3, 3) := by decide +kernel
theorem dX0_init_4 : decode cX0_init 4 = .ok (.aload_n 0, 1) := by decide +kernel
theorem dX0_init_5 : decode cX0_init 5 = .ok (.bipush 10, 2) := by decide +kernel
theorem dX0_init_7 : decode cX0_init 7 = .ok (.newarray .long, 2) := by decide +kernel
theorem dX0_init_9 : decode cX0_init 9 = .ok (.putfield 9, 3) := by decide +kernel
theorem dX0_init_12 : decode cX0_init 12 = .ok (.aload_n 0, 1) := by decide +kernel
theorem dX0_init_13 : decode cX0_init 13 = .ok (.bipush 120, 2) := by decide +kernel
theorem dX0_init_15 : decode cX0_init 15 = .ok (.newarray .long, 2) := by decide +kernel
theorem dX0_init_17 : decode cX0_init 17 = .ok (.putfield 15, 3) := by decide +kernel
theorem dX0_init_20 : decode cX0_init 20 = .ok (.return_, 1) := by decide +kernel
theorem dX0_setPacket_0 : decode cX0_setPacket 0 = .ok (.aload_n 0, 1) := by decide +kernel
theorem dX0_setPacket_1 : decode cX0_setPacket 1 = .ok (.getfield 9, 3) := by decide +kernel
theorem dX0_setPacket_4 : decode cX0_setPacket 4 = .ok (.iconst 0, 1) := by decide +kernel
theorem dX0_setPacket_5 : decode cX0_setPacket 5 = .ok (.lload_n 1, 1) := by decide +kernel
theorem dX0_setPacket_6 : decode cX0_setPacket 6 = .ok (.lastore, 1) := by decide +kernel
theorem dX0_setPacket_7 : decode cX0_setPacket 7 = .ok (.aload_n 0, 1) := by decide +kernel
theorem dX0_setPacket_8 : decode cX0_setPacket 8 = .ok (.getfield 9, 3) := by decide +kernel
theorem dX0_setPacket_11 : decode cX0_setPacket 11 = .ok (.iconst 1, 1) := by decide +kernel
theorem dX0_setPacket_12 : decode cX0_setPacket 12 = .ok (.lload_n 3, 1) := by decide +kernel
theorem dX0_setPacket_13 : decode cX0_setPacket 13 = .ok (.lastore, 1) := by decide +kernel
theorem dX0_setPacket_14 : decode cX0_setPacket 14 = .ok (.aload_n 0, 1) := by decide +kernel
theorem dX0_setPacket_15 : decode cX0_setPacket 15 = .ok (.getfield 9, 3) := by decide +kernel
theorem dX0_setPacket_18 : decode cX0_setPacket 18 = .ok (.iconst 2, 1) := by decide +kernel
theorem dX0_setPacket_19 : decode cX0_setPacket 19 = .ok (.lload 5, 2) := by decide +kernel
theorem dX0_setPacket_21 : decode cX0_setPacket 21 = .ok (.lastore, 1) := by decide +kernel
theorem dX0_setPacket_22 : decode cX0_setPacket 22 = .ok (.return_, 1) := by decide +kernel
theorem dX0_setClass_0 : decode cX0_setClass 0 = .ok (.aload_n 0, 1) := by decide +kernel
theorem dX0_setClass_1 : decode cX0_setClass 1 = .ok (.getfield 9, 3) := by decide +kernel
theorem dX0_setClass_4 : decode cX0_setClass 4 = .ok (.iconst 3, 1) := by decide +kernel
theorem dX0_setClass_5 : decode cX0_setClass 5 = .ok (.lload_n 1, 1) := by decide +kernel
theorem dX0_setClass_6 : decode cX0_setClass 6 = .ok (.lastore, 1) := by decide +kernel
theorem dX0_setClass_7 : decode cX0_setClass 7 = .ok (.aload_n 0, 1) := by decide +kernel
theorem dX0_setClass_8 : decode cX0_setClass 8 = .ok (.getfield 9, 3) := by decide +kernel
theorem dX0_setClass_11 : decode cX0_setClass 11 = .ok (.iconst 4, 1) := by decide +kernel
theorem dX0_setClass_12 : decode cX0_setClass 12 = .ok (.lload_n 3, 1) := by decide +kernel
theorem dX0_setClass_13 : decode cX0_setClass 13 = .ok (.lastore, 1) := by decide +kernel
theorem dX0_setClass_14 : decode cX0_setClass 14 = .ok (.aload_n 0, 1) := by decide +kernel
theorem dX0_setClass_15 : decode cX0_setClass 15 = .ok (.getfield 9, 3) := by decide +kernel
theorem dX0_setClass_18 : decode cX0_setClass 18 = .ok (.iconst 5, 1) := by decide +kernel
theorem dX0_setClass_19 : decode cX0_setClass 19 = .ok (.lload 5, 2) := by decide +kernel
theorem dX0_setClass_21 : decode cX0_setClass 21 = .ok (.lastore, 1) := by decide +kernel
theorem dX0_setClass_22 : decode cX0_setClass 22 = .ok (.return_, 1) := by decide +kernel
theorem dX0_setMoment_0 : decode cX0_setMoment 0 = .ok (.aload_n 0, 1) := by decide +kernel
theorem dX0_setMoment_1 : decode cX0_setMoment 1 = .ok (.getfield 9, 3) := by decide +kernel
theorem dX0_setMoment_4 : decode cX0_setMoment 4 = .ok (.bipush 6, 2) := by decide +kernel
theorem dX0_setMoment_6 : decode cX0_setMoment 6 = .ok (.lload_n 1, 1) := by decide +kernel
theorem dX0_setMoment_7 : decode cX0_setMoment 7 = .ok (.lastore, 1) := by decide +kernel
theorem dX0_setMoment_8 : decode cX0_setMoment 8 = .ok (.aload_n 0, 1) := by decide +kernel
theorem dX0_setMoment_9 : decode cX0_setMoment 9 = .ok (.getfield 9, 3) := by decide +kernel
theorem dX0_setMoment_12 : decode cX0_setMoment 12 = .ok (.bipush 7, 2) := by decide +kernel
theorem dX0_setMoment_14 : decode cX0_setMoment 14 = .ok (.lload_n 3, 1) := by decide +kernel
theorem dX0_setMoment_15 : decode cX0_setMoment 15 = .ok (.lastore, 1) := by decide +kernel
theorem dX0_setMoment_16 : decode cX0_setMoment 16 = .ok (.aload_n 0, 1) := by decide +kernel
theorem dX0_setMoment_17 : decode cX0_setMoment 17 = .ok (.getfield 9, 3) := by decide +kernel
theorem dX0_setMoment_20 : decode cX0_setMoment 20 = .ok (.bipush 8, 2) := by decide +kernel
theorem dX0_setMoment_22 : decode cX0_setMoment 22 = .ok (.lload 5, 2) := by decide +kernel
theorem dX0_setMoment_24 : decode cX0_setMoment 24 = .ok (.lastore, 1) := by decide +kernel
theorem dX0_setMoment_25 : decode cX0_setMoment 25 = .ok (.return_, 1) := by decide +kernel
theorem dX0_setRank_0 : decode cX0_setRank 0 = .ok (.aload_n 0, 1) := by decide +kernel
theorem dX0_setRank_1 : decode cX0_setRank 1 = .ok (.getfield 9, 3) := by decide +kernel
theorem dX0_setRank_4 : decode cX0_setRank 4 = .ok (.bipush 9, 2) := by decide +kernel
theorem dX0_setRank_6 : decode cX0_setRank 6 = .ok (.lload_n 1, 1) := by decide +kernel
theorem dX0_setRank_7 : decode cX0_setRank 7 = .ok (.lastore, 1) := by decide +kernel
theorem dX0_setRank_8 : decode cX0_setRank 8 = .ok (.return_, 1) := by decide +kernel
theorem dX0_valueOf_0 : decode cX0_valueOf 0 = .ok (.iconst 0, 1) := by decide +kernel
theorem dX0_valueOf_1 : decode cX0_valueOf 1 = .ok (.istore 4, 2) := by decide +kernel
theorem dX0_valueOf_3 : decode cX0_valueOf 3 = .ok (.iload_n 2, 1) := by decide +kernel
theorem dX0_valueOf_4 : decode cX0_valueOf 4 = .ok (.istore 5, 2) := by decide +kernel
theorem dX0_valueOf_6 : decode cX0_valueOf 6 = .ok (.iload 5, 2) := by decide +kernel
theorem dX0_valueOf_8 : decode cX0_valueOf 8 = .ok (.ifCond .lt 155, 3) := by decide +kernel
theorem dX0_valueOf_11 : decode cX0_valueOf 11 = .ok (.iload 5, 2) := by decide +kernel
theorem dX0_valueOf_13 : decode cX0_valueOf 13 = .ok (.iload_n 3, 1) := by decide +kernel
theorem dX0_valueOf_14 : decode cX0_valueOf 14 = .ok (.if_icmp .ge 149, 3) := by decide +kernel
theorem dX0_valueOf_17 : decode cX0_valueOf 17 = .ok (.iload 5, 2) := by decide +kernel
theorem dX0_valueOf_19 : decode cX0_valueOf 19 = .ok (.bipush 120, 2) := by decide +kernel
theorem dX0_valueOf_21 : decode cX0_valueOf 21 = .ok (.if_icmp .ge 142, 3) := by decide +kernel
theorem dX0_valueOf_24 : decode cX0_valueOf 24 = .ok (.aload_n 1, 1) := by decide +kernel
theorem dX0_valueOf_25 : decode cX0_valueOf 25 = .ok (.getfield 18, 3) := by decide +kernel
theorem dX0_valueOf_28 : decode cX0_valueOf 28 = .ok (.iload 5, 2) := by decide +kernel
theorem dX0_valueOf_30 : decode cX0_valueOf 30 = .ok (.iaload, 1) := by decide +kernel
theorem dX0_valueOf_31 : decode cX0_valueOf 31 = .ok (.istore 6, 2) := by decide +kernel
theorem dX0_valueOf_33 : decode cX0_valueOf 33 = .ok (.iload 6, 2) := by decide +kernel
theorem dX0_valueOf_35 : decode cX0_valueOf 35 = .ok (.bipush (-10), 2) := by decide +kernel
theorem dX0_valueOf_37 : decode cX0_valueOf 37 = .ok (.if_icmp .lt 46, 3) := by decide +kernel
theorem dX0_valueOf_40 : decode cX0_valueOf 40 = .ok (.iload 4, 2) := by decide +kernel
theorem dX0_valueOf_42 : decode cX0_valueOf 42 = .ok (.aload_n 0, 1) := by decide +kernel
theorem dX0_valueOf_43 : decode cX0_valueOf 43 = .ok (.getfield 15, 3) := by decide +kernel
theorem dX0_valueOf_46 : decode cX0_valueOf 46 = .ok (.arraylength, 1) := by decide +kernel
theorem dX0_valueOf_47 : decode cX0_valueOf 47 = .ok (.if_icmp .ge 110, 3) := by decide +kernel
theorem dX0_valueOf_50 : decode cX0_valueOf 50 = .ok (.aload_n 0, 1) := by decide +kernel
theorem dX0_valueOf_51 : decode cX0_valueOf 51 = .ok (.getfield 15, 3) := by decide +kernel
theorem dX0_valueOf_54 : decode cX0_valueOf 54 = .ok (.iload 4, 2) := by decide +kernel
theorem dX0_valueOf_56 : decode cX0_valueOf 56 = .ok (.iload 6, 2) := by decide +kernel
theorem dX0_valueOf_58 : decode cX0_valueOf 58 = .ok (.ifCond .lt 9, 3) := by decide +kernel
theorem dX0_valueOf_61 : decode cX0_valueOf 61 = .ok (.iload 6, 2) := by decide +kernel
theorem dX0_valueOf_63 : decode cX0_valueOf 63 = .ok (.i2l, 1) := by decide +kernel
theorem dX0_valueOf_64 : decode cX0_valueOf 64 = .ok (.goto 12, 3) := by decide +kernel
theorem dX0_valueOf_67 : decode cX0_valueOf 67 = .ok (.aload_n 0, 1) := by decide +kernel
theorem dX0_valueOf_68 : decode cX0_valueOf 68 = .ok (.getfield 9, 3) := by decide +kernel
theorem dX0_valueOf_71 : decode cX0_valueOf 71 = .ok (.iconst (-1), 1) := by decide +kernel
theorem dX0_valueOf_72 : decode cX0_valueOf 72 = .ok (.iload 6, 2) := by decide +kernel
theorem dX0_valueOf_74 : decode cX0_valueOf 74 = .ok (.isub, 1) := by decide +kernel
theorem dX0_valueOf_75 : decode cX0_valueOf 75 = .ok (.laload, 1) := by decide +kernel
theorem dX0_valueOf_76 : decode cX0_valueOf 76 = .ok (.lastore, 1) := by decide +kernel
theorem dX0_valueOf_77 : decode cX0_valueOf 77 = .ok (.iinc 4 1, 3) := by decide +kernel
theorem dX0_valueOf_80 : decode cX0_valueOf 80 = .ok (.goto 77, 3) := by decide +kernel
theorem dX0_valueOf_83 : decode cX0_valueOf 83 = .ok (.iload 6, 2) := by decide +kernel
theorem dX0_valueOf_85 : decode cX0_valueOf 85 = .ok (.bipush (-126), 2) := by decide +kernel
theorem dX0_valueOf_87 : decode cX0_valueOf 87 = .ok (.if_icmp .ne 30, 3) := by decide +kernel
theorem dX0_valueOf_90 : decode cX0_valueOf 90 = .ok (.iload 4, 2) := by decide +kernel
theorem dX0_valueOf_92 : decode cX0_valueOf 92 = .ok (.ifCond .le 65, 3) := by decide +kernel
theorem dX0_valueOf_95 : decode cX0_valueOf 95 = .ok (.aload_n 0, 1) := by decide +kernel
theorem dX0_valueOf_96 : decode cX0_valueOf 96 = .ok (.getfield 15, 3) := by decide +kernel
theorem dX0_valueOf_99 : decode cX0_valueOf 99 = .ok (.iload 4, 2) := by decide +kernel
theorem dX0_valueOf_101 : decode cX0_valueOf 101 = .ok (.iconst 1, 1) := by decide +kernel
theorem dX0_valueOf_102 : decode cX0_valueOf 102 = .ok (.isub, 1) := by decide +kernel
theorem dX0_valueOf_103 : decode cX0_valueOf 103 = .ok (.aload_n 0, 1) := by decide +kernel
theorem dX0_valueOf_104 : decode cX0_valueOf 104 = .ok (.getfield 15, 3) := by decide +kernel
theorem dX0_valueOf_107 : decode cX0_valueOf 107 = .ok (.iload 4, 2) := by decide +kernel
theorem dX0_valueOf_109 : decode cX0_valueOf 109 = .ok (.iconst 1, 1) := by decide +kernel
theorem dX0_valueOf_110 : decode cX0_valueOf 110 = .ok (.isub, 1) := by decide +kernel
theorem dX0_valueOf_111 : decode cX0_valueOf 111 = .ok (.laload, 1) := by decide +kernel
theorem dX0_valueOf_112 : decode cX0_valueOf 112 = .ok (.lneg, 1) := by decide +kernel
theorem dX0_valueOf_113 : decode cX0_valueOf 113 = .ok (.lastore, 1) := by decide +kernel
theorem dX0_valueOf_114 : decode cX0_valueOf 114 = .ok (.goto 43, 3) := by decide +kernel
theorem dX0_valueOf_117 : decode cX0_valueOf 117 = .ok (.iload 4, 2) := by decide +kernel
theorem dX0_valueOf_119 : decode cX0_valueOf 119 = .ok (.iconst 1, 1) := by decide +kernel
theorem dX0_valueOf_120 : decode cX0_valueOf 120 = .ok (.if_icmp .le 37, 3) := by decide +kernel
theorem dX0_valueOf_123 : decode cX0_valueOf 123 = .ok (.iinc 4 (-1), 3) := by decide +kernel
theorem dX0_valueOf_126 : decode cX0_valueOf 126 = .ok (.aload_n 0, 1) := by decide +kernel
theorem dX0_valueOf_127 : decode cX0_valueOf 127 = .ok (.getfield 15, 3) := by decide +kernel
theorem dX0_valueOf_130 : decode cX0_valueOf 130 = .ok (.iload 4, 2) := by decide +kernel
theorem dX0_valueOf_132 : decode cX0_valueOf 132 = .ok (.iconst 1, 1) := by decide +kernel
theorem dX0_valueOf_133 : decode cX0_valueOf 133 = .ok (.isub, 1) := by decide +kernel
theorem dX0_valueOf_134 : decode cX0_valueOf 134 = .ok (.iload 6, 2) := by decide +kernel
theorem dX0_valueOf_136 : decode cX0_valueOf 136 = .ok (.ineg, 1) := by decide +kernel
theorem dX0_valueOf_137 : decode cX0_valueOf 137 = .ok (.aload_n 0, 1) := by decide +kernel
theorem dX0_valueOf_138 : decode cX0_valueOf 138 = .ok (.getfield 15, 3) := by decide +kernel
theorem dX0_valueOf_141 : decode cX0_valueOf 141 = .ok (.iload 4, 2) := by decide +kernel
theorem dX0_valueOf_143 : decode cX0_valueOf 143 = .ok (.iconst 1, 1) := by decide +kernel
theorem dX0_valueOf_144 : decode cX0_valueOf 144 = .ok (.isub, 1) := by decide +kernel
theorem dX0_valueOf_145 : decode cX0_valueOf 145 = .ok (.laload, 1) := by decide +kernel
theorem dX0_valueOf_146 : decode cX0_valueOf 146 = .ok (.aload_n 0, 1) := by decide +kernel
theorem dX0_valueOf_147 : decode cX0_valueOf 147 = .ok (.getfield 15, 3) := by decide +kernel
theorem dX0_valueOf_150 : decode cX0_valueOf 150 = .ok (.iload 4, 2) := by decide +kernel
theorem dX0_valueOf_152 : decode cX0_valueOf 152 = .ok (.laload, 1) := by decide +kernel
theorem dX0_valueOf_153 : decode cX0_valueOf 153 = .ok (.invokestatic 24, 3) := by decide +kernel
theorem dX0_valueOf_156 : decode cX0_valueOf 156 = .ok (.lastore, 1) := by decide +kernel
theorem dX0_valueOf_157 : decode cX0_valueOf 157 = .ok (.iinc 5 1, 3) := by decide +kernel
theorem dX0_valueOf_160 : decode cX0_valueOf 160 = .ok (.goto (-154), 3) := by decide +kernel
theorem dX0_valueOf_163 : decode cX0_valueOf 163 = .ok (.aload_n 0, 1) := by decide +kernel
theorem dX0_valueOf_164 : decode cX0_valueOf 164 = .ok (.getfield 15, 3) := by decide +kernel
theorem dX0_valueOf_167 : decode cX0_valueOf 167 = .ok (.iconst 0, 1) := by decide +kernel
theorem dX0_valueOf_168 : decode cX0_valueOf 168 = .ok (.laload, 1) := by decide +kernel
theorem dX0_valueOf_169 : decode cX0_valueOf 169 = .ok (.lreturn, 1) := by decide +kernel
theorem dX0_combine_0 : decode cX0_combine 0 = .ok (.iload_n 0, 1) := by decide +kernel
theorem dX0_combine_1 : decode cX0_combine 1 = .ok (.lookupswitch 89 #[(42, 59), (43, 51), (45, 55), (47, 63), (77, 77)], 51) := by decide +kernel
theorem dX0_combine_52 : decode cX0_combine 52 = .ok (.lload_n 1, 1) := by decide +kernel
theorem dX0_combine_53 : decode cX0_combine 53 = .ok (.lload_n 3, 1) := by decide +kernel
theorem dX0_combine_54 : decode cX0_combine 54 = .ok (.ladd, 1) := by decide +kernel
theorem dX0_combine_55 : decode cX0_combine 55 = .ok (.lreturn, 1) := by decide +kernel
theorem dX0_combine_56 : decode cX0_combine 56 = .ok (.lload_n 1, 1) := by decide +kernel
theorem dX0_combine_57 : decode cX0_combine 57 = .ok (.lload_n 3, 1) := by decide +kernel
theorem dX0_combine_58 : decode cX0_combine 58 = .ok (.lsub, 1) := by decide +kernel
theorem dX0_combine_59 : decode cX0_combine 59 = .ok (.lreturn, 1) := by decide +kernel
theorem dX0_combine_60 : decode cX0_combine 60 = .ok (.lload_n 1, 1) := by decide +kernel
theorem dX0_combine_61 : decode cX0_combine 61 = .ok (.lload_n 3, 1) := by decide +kernel
theorem dX0_combine_62 : decode cX0_combine 62 = .ok (.lmul, 1) := by decide +kernel
theorem dX0_combine_63 : decode cX0_combine 63 = .ok (.lreturn, 1) := by decide +kernel
theorem dX0_combine_64 : decode cX0_combine 64 = .ok (.lload_n 3, 1) := by decide +kernel
theorem dX0_combine_65 : decode cX0_combine 65 = .ok (.lconst 0, 1) := by decide +kernel
theorem dX0_combine_66 : decode cX0_combine 66 = .ok (.lcmp, 1) := by decide +kernel
theorem dX0_combine_67 : decode cX0_combine 67 = .ok (.ifCond .ne 7, 3) := by decide +kernel
theorem dX0_combine_70 : decode cX0_combine 70 = .ok (.lconst 0, 1) := by decide +kernel
theorem dX0_combine_71 : decode cX0_combine 71 = .ok (.goto 6, 3) := by decide +kernel
theorem dX0_combine_74 : decode cX0_combine 74 = .ok (.lload_n 1, 1) := by decide +kernel
theorem dX0_combine_75 : decode cX0_combine 75 = .ok (.lload_n 3, 1) := by decide +kernel
theorem dX0_combine_76 : decode cX0_combine 76 = .ok (.ldiv, 1) := by decide +kernel
theorem dX0_combine_77 : decode cX0_combine 77 = .ok (.lreturn, 1) := by decide +kernel
theorem dX0_combine_78 : decode cX0_combine 78 = .ok (.lload_n 1, 1) := by decide +kernel
theorem dX0_combine_79 : decode cX0_combine 79 = .ok (.lload_n 3, 1) := by decide +kernel
theorem dX0_combine_80 : decode cX0_combine 80 = .ok (.lcmp, 1) := by decide +kernel
theorem dX0_combine_81 : decode cX0_combine 81 = .ok (.ifCond .lt 7, 3) := by decide +kernel
theorem dX0_combine_84 : decode cX0_combine 84 = .ok (.lload_n 1, 1) := by decide +kernel
theorem dX0_combine_85 : decode cX0_combine 85 = .ok (.goto 4, 3) := by decide +kernel
theorem dX0_combine_88 : decode cX0_combine 88 = .ok (.lload_n 3, 1) := by decide +kernel
theorem dX0_combine_89 : decode cX0_combine 89 = .ok (.lreturn, 1) := by decide +kernel
theorem dX0_combine_90 : decode cX0_combine 90 = .ok (.lload_n 1, 1) := by decide +kernel
theorem dX0_combine_91 : decode cX0_combine 91 = .ok (.lload_n 3, 1) := by decide +kernel
theorem dX0_combine_92 : decode cX0_combine 92 = .ok (.lcmp, 1) := by decide +kernel
theorem dX0_combine_93 : decode cX0_combine 93 = .ok (.ifCond .gt 7, 3) := by decide +kernel
theorem dX0_combine_96 : decode cX0_combine 96 = .ok (.lload_n 1, 1) := by decide +kernel
theorem dX0_combine_97 : decode cX0_combine 97 = .ok (.goto 4, 3) := by decide +kernel
theorem dX0_combine_100 : decode cX0_combine 100 = .ok (.lload_n 3, 1) := by decide +kernel
theorem dX0_combine_101 : decode cX0_combine 101 = .ok (.lreturn, 1) := by decide +kernel
theorem dX1_init_0 : decode cX1_init 0 = .ok (.aload_n 0, 1) := by decide +kernel
theorem dX1_init_1 : decode cX1_init 1 = .ok (.invokespecial 3, 3) := by decide +kernel
theorem dX1_init_4 : decode cX1_init 4 = .ok (.aload_n 0, 1) := by decide +kernel
theorem dX1_init_5 : decode cX1_init 5 = .ok (.bipush 16, 2) := by decide +kernel
theorem dX1_init_7 : decode cX1_init 7 = .ok (.newarray .int, 2) := by decide +kernel
theorem dX1_init_9 : decode cX1_init 9 = .ok (.putfield 9, 3) := by decide +kernel
theorem dX1_init_12 : decode cX1_init 12 = .ok (.aload_n 0, 1) := by decide +kernel
theorem dX1_init_13 : decode cX1_init 13 = .ok (.bipush 16, 2) := by decide +kernel
theorem dX1_init_15 : decode cX1_init 15 = .ok (.newarray .int, 2) := by decide +kernel
theorem dX1_init_17 : decode cX1_init 17 = .ok (.putfield 15, 3) := by decide +kernel
theorem dX1_init_20 : decode cX1_init 20 = .ok (.aload_n 0, 1) := by decide +kernel
theorem dX1_init_21 : decode cX1_init 21 = .ok (.bipush 16, 2) := by decide +kernel
theorem dX1_init_23 : decode cX1_init 23 = .ok (.newarray .int, 2) := by decide +kernel
theorem dX1_init_25 : decode cX1_init 25 = .ok (.putfield 18, 3) := by decide +kernel
theorem dX1_init_28 : decode cX1_init 28 = .ok (.aload_n 0, 1) := by decide +kernel
theorem dX1_init_29 : decode cX1_init 29 = .ok (.bipush 16, 2) := by decide +kernel
theorem dX1_init_31 : decode cX1_init 31 = .ok (.newarray .int, 2) := by decide +kernel
theorem dX1_init_33 : decode cX1_init 33 = .ok (.putfield 21, 3) := by decide +kernel
theorem dX1_init_36 : decode cX1_init 36 = .ok (.aload_n 0, 1) := by decide +kernel
theorem dX1_init_37 : decode cX1_init 37 = .ok (.bipush 16, 2) := by decide +kernel
theorem dX1_init_39 : decode cX1_init 39 = .ok (.newarray .long, 2) := by decide +kernel
theorem dX1_init_41 : decode cX1_init 41 = .ok (.putfield 24, 3) := by decide +kernel
theorem dX1_init_44 : decode cX1_init 44 = .ok (.aload_n 0, 1) := by decide +kernel
theorem dX1_init_45 : decode cX1_init 45 = .ok (.bipush 16, 2) := by decide +kernel
theorem dX1_init_47 : decode cX1_init 47 = .ok (.newarray .long, 2) := by decide +kernel
theorem dX1_init_49 : decode cX1_init 49 = .ok (.putfield 28, 3) := by decide +kernel
theorem dX1_init_52 : decode cX1_init 52 = .ok (.aload_n 0, 1) := by decide +kernel
theorem dX1_init_53 : decode cX1_init 53 = .ok (.bipush 16, 2) := by decide +kernel
theorem dX1_init_55 : decode cX1_init 55 = .ok (.newarray .int, 2) := by decide +kernel
theorem dX1_init_57 : decode cX1_init 57 = .ok (.putfield 31, 3) := by decide +kernel
theorem dX1_init_60 : decode cX1_init 60 = .ok (.iconst 0, 1) := by decide +kernel
theorem dX1_init_61 : decode cX1_init 61 = .ok (.istore_n 1, 1) := by decide +kernel
theorem dX1_init_62 : decode cX1_init 62 = .ok (.iload_n 1, 1) := by decide +kernel
theorem dX1_init_63 : decode cX1_init 63 = .ok (.bipush 16, 2) := by decide +kernel
theorem dX1_init_65 : decode cX1_init 65 = .ok (.if_icmp .ge 16, 3) := by decide +kernel
theorem dX1_init_68 : decode cX1_init 68 = .ok (.aload_n 0, 1) := by decide +kernel
theorem dX1_init_69 : decode cX1_init 69 = .ok (.getfield 9, 3) := by decide +kernel
theorem dX1_init_72 : decode cX1_init 72 = .ok (.iload_n 1, 1) := by decide +kernel
theorem dX1_init_73 : decode cX1_init 73 = .ok (.iconst 1, 1) := by decide +kernel
theorem dX1_init_74 : decode cX1_init 74 = .ok (.iastore, 1) := by decide +kernel
theorem dX1_init_75 : decode cX1_init 75 = .ok (.iinc 1 1, 3) := by decide +kernel
theorem dX1_init_78 : decode cX1_init 78 = .ok (.goto (-16), 3) := by decide +kernel
theorem dX1_init_81 : decode cX1_init 81 = .ok (.return_, 1) := by decide +kernel
theorem dX1_restart_0 : decode cX1_restart 0 = .ok (.iconst 0, 1) := by decide +kernel
theorem dX1_restart_1 : decode cX1_restart 1 = .ok (.istore_n 2, 1) := by decide +kernel
theorem dX1_restart_2 : decode cX1_restart 2 = .ok (.iload_n 2, 1) := by decide +kernel
theorem dX1_restart_3 : decode cX1_restart 3 = .ok (.bipush 16, 2) := by decide +kernel
theorem dX1_restart_5 : decode cX1_restart 5 = .ok (.if_icmp .ge 51, 3) := by decide +kernel
theorem dX1_restart_8 : decode cX1_restart 8 = .ok (.aload_n 0, 1) := by decide +kernel
theorem dX1_restart_9 : decode cX1_restart 9 = .ok (.getfield 15, 3) := by decide +kernel
theorem dX1_restart_12 : decode cX1_restart 12 = .ok (.iload_n 2, 1) := by decide +kernel
theorem dX1_restart_13 : decode cX1_restart 13 = .ok (.iload_n 1, 1) := by decide +kernel
theorem dX1_restart_14 : decode cX1_restart 14 = .ok (.iastore, 1) := by decide +kernel
theorem dX1_restart_15 : decode cX1_restart 15 = .ok (.aload_n 0, 1) := by decide +kernel
theorem dX1_restart_16 : decode cX1_restart 16 = .ok (.getfield 18, 3) := by decide +kernel
theorem dX1_restart_19 : decode cX1_restart 19 = .ok (.iload_n 2, 1) := by decide +kernel
theorem dX1_restart_20 : decode cX1_restart 20 = .ok (.iconst 0, 1) := by decide +kernel
theorem dX1_restart_21 : decode cX1_restart 21 = .ok (.iastore, 1) := by decide +kernel
theorem dX1_restart_22 : decode cX1_restart 22 = .ok (.aload_n 0, 1) := by decide +kernel
theorem dX1_restart_23 : decode cX1_restart 23 = .ok (.getfield 21, 3) := by decide +kernel
theorem dX1_restart_26 : decode cX1_restart 26 = .ok (.iload_n 2, 1) := by decide +kernel
theorem dX1_restart_27 : decode cX1_restart 27 = .ok (.iconst 0, 1) := by decide +kernel
theorem dX1_restart_28 : decode cX1_restart 28 = .ok (.iastore, 1) := by decide +kernel
theorem dX1_restart_29 : decode cX1_restart 29 = .ok (.aload_n 0, 1) := by decide +kernel
theorem dX1_restart_30 : decode cX1_restart 30 = .ok (.getfield 24, 3) := by decide +kernel
theorem dX1_restart_33 : decode cX1_restart 33 = .ok (.iload_n 2, 1) := by decide +kernel
theorem dX1_restart_34 : decode cX1_restart 34 = .ok (.lconst 0, 1) := by decide +kernel
theorem dX1_restart_35 : decode cX1_restart 35 = .ok (.lastore, 1) := by decide +kernel
theorem dX1_restart_36 : decode cX1_restart 36 = .ok (.aload_n 0, 1) := by decide +kernel
theorem dX1_restart_37 : decode cX1_restart 37 = .ok (.getfield 28, 3) := by decide +kernel
theorem dX1_restart_40 : decode cX1_restart 40 = .ok (.iload_n 2, 1) := by decide +kernel
theorem dX1_restart_41 : decode cX1_restart 41 = .ok (.lconst 0, 1) := by decide +kernel
theorem dX1_restart_42 : decode cX1_restart 42 = .ok (.lastore, 1) := by decide +kernel
theorem dX1_restart_43 : decode cX1_restart 43 = .ok (.aload_n 0, 1) := by decide +kernel
theorem dX1_restart_44 : decode cX1_restart 44 = .ok (.getfield 31, 3) := by decide +kernel
theorem dX1_restart_47 : decode cX1_restart 47 = .ok (.iload_n 2, 1) := by decide +kernel
theorem dX1_restart_48 : decode cX1_restart 48 = .ok (.iconst 0, 1) := by decide +kernel
theorem dX1_restart_49 : decode cX1_restart 49 = .ok (.iastore, 1) := by decide +kernel
theorem dX1_restart_50 : decode cX1_restart 50 = .ok (.iinc 2 1, 3) := by decide +kernel
theorem dX1_restart_53 : decode cX1_restart 53 = .ok (.goto (-51), 3) := by decide +kernel
theorem dX1_restart_56 : decode cX1_restart 56 = .ok (.return_, 1) := by decide +kernel
theorem dX1_count_0 : decode cX1_count 0 = .ok (.iload_n 1, 1) := by decide +kernel
theorem dX1_count_1 : decode cX1_count 1 = .ok (.ifCond .lt 9, 3) := by decide +kernel
theorem dX1_count_4 : decode cX1_count 4 = .ok (.iload_n 1, 1) := by decide +kernel
theorem dX1_count_5 : decode cX1_count 5 = .ok (.bipush 16, 2) := by decide +kernel
theorem dX1_count_7 : decode cX1_count 7 = .ok (.if_icmp .lt 4, 3) := by decide +kernel
theorem dX1_count_10 : decode cX1_count 10 = .ok (.return_, 1) := by decide +kernel
theorem dX1_count_11 : decode cX1_count 11 = .ok (.aload_n 0, 1) := by decide +kernel
theorem dX1_count_12 : decode cX1_count 12 = .ok (.getfield 18, 3) := by decide +kernel
theorem dX1_count_15 : decode cX1_count 15 = .ok (.iload_n 1, 1) := by decide +kernel
theorem dX1_count_16 : decode cX1_count 16 = .ok (.dup2, 1) := by decide +kernel
theorem dX1_count_17 : decode cX1_count 17 = .ok (.iaload, 1) := by decide +kernel
theorem dX1_count_18 : decode cX1_count 18 = .ok (.iconst 1, 1) := by decide +kernel
theorem dX1_count_19 : decode cX1_count 19 = .ok (.iadd, 1) := by decide +kernel
theorem dX1_count_20 : decode cX1_count 20 = .ok (.iastore, 1) := by decide +kernel
theorem dX1_count_21 : decode cX1_count 21 = .ok (.aload_n 0, 1) := by decide +kernel
theorem dX1_count_22 : decode cX1_count 22 = .ok (.getfield 21, 3) := by decide +kernel
theorem dX1_count_25 : decode cX1_count 25 = .ok (.iload_n 1, 1) := by decide +kernel
theorem dX1_count_26 : decode cX1_count 26 = .ok (.dup2, 1) := by decide +kernel
theorem dX1_count_27 : decode cX1_count 27 = .ok (.iaload, 1) := by decide +kernel
theorem dX1_count_28 : decode cX1_count 28 = .ok (.iload_n 2, 1) := by decide +kernel
theorem dX1_count_29 : decode cX1_count 29 = .ok (.iadd, 1) := by decide +kernel
theorem dX1_count_30 : decode cX1_count 30 = .ok (.iastore, 1) := by decide +kernel
theorem dX1_count_31 : decode cX1_count 31 = .ok (.aload_n 0, 1) := by decide +kernel
theorem dX1_count_32 : decode cX1_count 32 = .ok (.getfield 24, 3) := by decide +kernel
theorem dX1_count_35 : decode cX1_count 35 = .ok (.iload_n 1, 1) := by decide +kernel
theorem dX1_count_36 : decode cX1_count 36 = .ok (.dup2, 1) := by decide +kernel
theorem dX1_count_37 : decode cX1_count 37 = .ok (.laload, 1) := by decide +kernel
theorem dX1_count_38 : decode cX1_count 38 = .ok (.lload_n 3, 1) := by decide +kernel
theorem dX1_count_39 : decode cX1_count 39 = .ok (.ladd, 1) := by decide +kernel
theorem dX1_count_40 : decode cX1_count 40 = .ok (.lastore, 1) := by decide +kernel
theorem dX1_count_41 : decode cX1_count 41 = .ok (.aload_n 0, 1) := by decide +kernel
theorem dX1_count_42 : decode cX1_count 42 = .ok (.getfield 28, 3) := by decide +kernel
theorem dX1_count_45 : decode cX1_count 45 = .ok (.iload_n 1, 1) := by decide +kernel
theorem dX1_count_46 : decode cX1_count 46 = .ok (.aload_n 0, 1) := by decide +kernel
theorem dX1_count_47 : decode cX1_count 47 = .ok (.getfield 28, 3) := by decide +kernel
theorem dX1_count_50 : decode cX1_count 50 = .ok (.iload_n 1, 1) := by decide +kernel
theorem dX1_count_51 : decode cX1_count 51 = .ok (.laload, 1) := by decide +kernel
theorem dX1_count_52 : decode cX1_count 52 = .ok (.lload_n 3, 1) := by decide +kernel
theorem dX1_count_53 : decode cX1_count 53 = .ok (.invokestatic 34, 3) := by decide +kernel
theorem dX1_count_56 : decode cX1_count 56 = .ok (.lastore, 1) := by decide +kernel
theorem dX1_count_57 : decode cX1_count 57 = .ok (.iload 5, 2) := by decide +kernel
theorem dX1_count_59 : decode cX1_count 59 = .ok (.ifCond .eq 13, 3) := by decide +kernel
theorem dX1_count_62 : decode cX1_count 62 = .ok (.aload_n 0, 1) := by decide +kernel
theorem dX1_count_63 : decode cX1_count 63 = .ok (.getfield 31, 3) := by decide +kernel
theorem dX1_count_66 : decode cX1_count 66 = .ok (.iload_n 1, 1) := by decide +kernel
theorem dX1_count_67 : decode cX1_count 67 = .ok (.dup2, 1) := by decide +kernel
theorem dX1_count_68 : decode cX1_count 68 = .ok (.iaload, 1) := by decide +kernel
theorem dX1_count_69 : decode cX1_count 69 = .ok (.iconst 1, 1) := by decide +kernel
theorem dX1_count_70 : decode cX1_count 70 = .ok (.iadd, 1) := by decide +kernel
theorem dX1_count_71 : decode cX1_count 71 = .ok (.iastore, 1) := by decide +kernel
theorem dX1_count_72 : decode cX1_count 72 = .ok (.return_, 1) := by decide +kernel
theorem dX1_allBytes_0 : decode cX1_allBytes 0 = .ok (.lconst 0, 1) := by decide +kernel
theorem dX1_allBytes_1 : decode cX1_allBytes 1 = .ok (.lstore_n 1, 1) := by decide +kernel
theorem dX1_allBytes_2 : decode cX1_allBytes 2 = .ok (.iconst 0, 1) := by decide +kernel
theorem dX1_allBytes_3 : decode cX1_allBytes 3 = .ok (.istore_n 3, 1) := by decide +kernel
theorem dX1_allBytes_4 : decode cX1_allBytes 4 = .ok (.iload_n 3, 1) := by decide +kernel
theorem dX1_allBytes_5 : decode cX1_allBytes 5 = .ok (.bipush 16, 2) := by decide +kernel
theorem dX1_allBytes_7 : decode cX1_allBytes 7 = .ok (.if_icmp .ge 19, 3) := by decide +kernel
theorem dX1_allBytes_10 : decode cX1_allBytes 10 = .ok (.lload_n 1, 1) := by decide +kernel
theorem dX1_allBytes_11 : decode cX1_allBytes 11 = .ok (.aload_n 0, 1) := by decide +kernel
theorem dX1_allBytes_12 : decode cX1_allBytes 12 = .ok (.getfield 21, 3) := by decide +kernel
theorem dX1_allBytes_15 : decode cX1_allBytes 15 = .ok (.iload_n 3, 1) := by decide +kernel
theorem dX1_allBytes_16 : decode cX1_allBytes 16 = .ok (.iaload, 1) := by decide +kernel
theorem dX1_allBytes_17 : decode cX1_allBytes 17 = .ok (.i2l, 1) := by decide +kernel
theorem dX1_allBytes_18 : decode cX1_allBytes 18 = .ok (.ladd, 1) := by decide +kernel
theorem dX1_allBytes_19 : decode cX1_allBytes 19 = .ok (.lstore_n 1, 1) := by decide +kernel
theorem dX1_allBytes_20 : decode cX1_allBytes 20 = .ok (.iinc 3 1, 3) := by decide +kernel
theorem dX1_allBytes_23 : decode cX1_allBytes 23 = .ok (.goto (-19), 3) := by decide +kernel
theorem dX1_allBytes_26 : decode cX1_allBytes 26 = .ok (.lload_n 1, 1) := by decide +kernel
theorem dX1_allBytes_27 : decode cX1_allBytes 27 = .ok (.lreturn, 1) := by decide +kernel
theorem dX1_copyFrom_0 : decode cX1_copyFrom 0 = .ok (.aload_n 1, 1) := by decide +kernel
theorem dX1_copyFrom_1 : decode cX1_copyFrom 1 = .ok (.getfield 9, 3) := by decide +kernel
theorem dX1_copyFrom_4 : decode cX1_copyFrom 4 = .ok (.iconst 0, 1) := by decide +kernel
theorem dX1_copyFrom_5 : decode cX1_copyFrom 5 = .ok (.aload_n 0, 1) := by decide +kernel
theorem dX1_copyFrom_6 : decode cX1_copyFrom 6 = .ok (.getfield 9, 3) := by decide +kernel
theorem dX1_copyFrom_9 : decode cX1_copyFrom 9 = .ok (.iconst 0, 1) := by decide +kernel
theorem dX1_copyFrom_10 : decode cX1_copyFrom 10 = .ok (.bipush 16, 2) := by decide +kernel
theorem dX1_copyFrom_12 : decode cX1_copyFrom 12 = .ok (.invokestatic 40, 3) := by decide +kernel
theorem dX1_copyFrom_15 : decode cX1_copyFrom 15 = .ok (.aload_n 1, 1) := by decide +kernel
theorem dX1_copyFrom_16 : decode cX1_copyFrom 16 = .ok (.getfield 15, 3) := by decide +kernel
theorem dX1_copyFrom_19 : decode cX1_copyFrom 19 = .ok (.iconst 0, 1) := by decide +kernel
theorem dX1_copyFrom_20 : decode cX1_copyFrom 20 = .ok (.aload_n 0, 1) := by decide +kernel
theorem dX1_copyFrom_21 : decode cX1_copyFrom 21 = .ok (.getfield 15, 3) := by decide +kernel
theorem dX1_copyFrom_24 : decode cX1_copyFrom 24 = .ok (.iconst 0, 1) := by decide +kernel
theorem dX1_copyFrom_25 : decode cX1_copyFrom 25 = .ok (.bipush 16, 2) := by decide +kernel
theorem dX1_copyFrom_27 : decode cX1_copyFrom 27 = .ok (.invokestatic 40, 3) := by decide +kernel
theorem dX1_copyFrom_30 : decode cX1_copyFrom 30 = .ok (.aload_n 1, 1) := by decide +kernel
theorem dX1_copyFrom_31 : decode cX1_copyFrom 31 = .ok (.getfield 18, 3) := by decide +kernel
theorem dX1_copyFrom_34 : decode cX1_copyFrom 34 = .ok (.iconst 0, 1) := by decide +kernel
theorem dX1_copyFrom_35 : decode cX1_copyFrom 35 = .ok (.aload_n 0, 1) := by decide +kernel
theorem dX1_copyFrom_36 : decode cX1_copyFrom 36 = .ok (.getfield 18, 3) := by decide +kernel
theorem dX1_copyFrom_39 : decode cX1_copyFrom 39 = .ok (.iconst 0, 1) := by decide +kernel
theorem dX1_copyFrom_40 : decode cX1_copyFrom 40 = .ok (.bipush 16, 2) := by decide +kernel
theorem dX1_copyFrom_42 : decode cX1_copyFrom 42 = .ok (.invokestatic 40, 3) := by decide +kernel
theorem dX1_copyFrom_45 : decode cX1_copyFrom 45 = .ok (.aload_n 1, 1) := by decide +kernel
theorem dX1_copyFrom_46 : decode cX1_copyFrom 46 = .ok (.getfield 21, 3) := by decide +kernel
theorem dX1_copyFrom_49 : decode cX1_copyFrom 49 = .ok (.iconst 0, 1) := by decide +kernel
theorem dX1_copyFrom_50 : decode cX1_copyFrom 50 = .ok (.aload_n 0, 1) := by decide +kernel
theorem dX1_copyFrom_51 : decode cX1_copyFrom 51 = .ok (.getfield 21, 3) := by decide +kernel
theorem dX1_copyFrom_54 : decode cX1_copyFrom 54 = .ok (.iconst 0, 1) := by decide +kernel
theorem dX1_copyFrom_55 : decode cX1_copyFrom 55 = .ok (.bipush 16, 2) := by decide +kernel
theorem dX1_copyFrom_57 : decode cX1_copyFrom 57 = .ok (.invokestatic 40, 3) := by decide +kernel
theorem dX1_copyFrom_60 : decode cX1_copyFrom 60 = .ok (.aload_n 1, 1) := by decide +kernel
theorem dX1_copyFrom_61 : decode cX1_copyFrom 61 = .ok (.getfield 24, 3) := by decide +kernel
theorem dX1_copyFrom_64 : decode cX1_copyFrom 64 = .ok (.iconst 0, 1) := by decide +kernel
theorem dX1_copyFrom_65 : decode cX1_copyFrom 65 = .ok (.aload_n 0, 1) := by decide +kernel
theorem dX1_copyFrom_66 : decode cX1_copyFrom 66 = .ok (.getfield 24, 3) := by decide +kernel
theorem dX1_copyFrom_69 : decode cX1_copyFrom 69 = .ok (.iconst 0, 1) := by decide +kernel
theorem dX1_copyFrom_70 : decode cX1_copyFrom 70 = .ok (.bipush 16, 2) := by decide +kernel
theorem dX1_copyFrom_72 : decode cX1_copyFrom 72 = .ok (.invokestatic 40, 3) := by decide +kernel
theorem dX1_copyFrom_75 : decode cX1_copyFrom 75 = .ok (.aload_n 1, 1) := by decide +kernel
theorem dX1_copyFrom_76 : decode cX1_copyFrom 76 = .ok (.getfield 28, 3) := by decide +kernel
theorem dX1_copyFrom_79 : decode cX1_copyFrom 79 = .ok (.iconst 0, 1) := by decide +kernel
theorem dX1_copyFrom_80 : decode cX1_copyFrom 80 = .ok (.aload_n 0, 1) := by decide +kernel
theorem dX1_copyFrom_81 : decode cX1_copyFrom 81 = .ok (.getfield 28, 3) := by decide +kernel
theorem dX1_copyFrom_84 : decode cX1_copyFrom 84 = .ok (.iconst 0, 1) := by decide +kernel
theorem dX1_copyFrom_85 : decode cX1_copyFrom 85 = .ok (.bipush 16, 2) := by decide +kernel
theorem dX1_copyFrom_87 : decode cX1_copyFrom 87 = .ok (.invokestatic 40, 3) := by decide +kernel
theorem dX1_copyFrom_90 : decode cX1_copyFrom 90 = .ok (.aload_n 1, 1) := by decide +kernel
theorem dX1_copyFrom_91 : decode cX1_copyFrom 91 = .ok (.getfield 31, 3) := by decide +kernel
theorem dX1_copyFrom_94 : decode cX1_copyFrom 94 = .ok (.iconst 0, 1) := by decide +kernel
theorem dX1_copyFrom_95 : decode cX1_copyFrom 95 = .ok (.aload_n 0, 1) := by decide +kernel
theorem dX1_copyFrom_96 : decode cX1_copyFrom 96 = .ok (.getfield 31, 3) := by decide +kernel
theorem dX1_copyFrom_99 : decode cX1_copyFrom 99 = .ok (.iconst 0, 1) := by decide +kernel
theorem dX1_copyFrom_100 : decode cX1_copyFrom 100 = .ok (.bipush 16, 2) := by decide +kernel
theorem dX1_copyFrom_102 : decode cX1_copyFrom 102 = .ok (.invokestatic 40, 3) := by decide +kernel
theorem dX1_copyFrom_105 : decode cX1_copyFrom 105 = .ok (.return_, 1) := by decide +kernel
theorem dX2_init_0 : decode cX2_init 0 = .ok (.aload_n 0, 1) := by decide +kernel
theorem dX2_init_1 : decode cX2_init 1 = .ok (.invokespecial 3, 3) := by decide +kernel
theorem dX2_init_4 : decode cX2_init 4 = .ok (.aload_n 0, 1) := by decide +kernel
theorem dX2_init_5 : decode cX2_init 5 = .ok (.bipush 64, 2) := by decide +kernel
theorem dX2_init_7 : decode cX2_init 7 = .ok (.newarray .int, 2) := by decide +kernel
theorem dX2_init_9 : decode cX2_init 9 = .ok (.putfield 9, 3) := by decide +kernel
theorem dX2_init_12 : decode cX2_init 12 = .ok (.aload_n 0, 1) := by decide +kernel
theorem dX2_init_13 : decode cX2_init 13 = .ok (.bipush 64, 2) := by decide +kernel
theorem dX2_init_15 : decode cX2_init 15 = .ok (.newarray .int, 2) := by decide +kernel
theorem dX2_init_17 : decode cX2_init 17 = .ok (.putfield 15, 3) := by decide +kernel
theorem dX2_init_20 : decode cX2_init 20 = .ok (.aload_n 0, 1) := by decide +kernel
theorem dX2_init_21 : decode cX2_init 21 = .ok (.bipush 64, 2) := by decide +kernel
theorem dX2_init_23 : decode cX2_init 23 = .ok (.newarray .long, 2) := by decide +kernel
theorem dX2_init_25 : decode cX2_init 25 = .ok (.putfield 18, 3) := by decide +kernel
theorem dX2_init_28 : decode cX2_init 28 = .ok (.return_, 1) := by decide +kernel
theorem dX2_add_0 : decode cX2_add 0 = .ok (.aload_n 0, 1) := by decide +kernel
theorem dX2_add_1 : decode cX2_add 1 = .ok (.getfield 22, 3) := by decide +kernel
theorem dX2_add_4 : decode cX2_add 4 = .ok (.ifCond .lt 12, 3) := by decide +kernel
theorem dX2_add_7 : decode cX2_add 7 = .ok (.aload_n 0, 1) := by decide +kernel
theorem dX2_add_8 : decode cX2_add 8 = .ok (.getfield 22, 3) := by decide +kernel
theorem dX2_add_11 : decode cX2_add 11 = .ok (.bipush 64, 2) := by decide +kernel
theorem dX2_add_13 : decode cX2_add 13 = .ok (.if_icmp .lt 4, 3) := by decide +kernel
theorem dX2_add_16 : decode cX2_add 16 = .ok (.return_, 1) := by decide +kernel
theorem dX2_add_17 : decode cX2_add 17 = .ok (.aload_n 0, 1) := by decide +kernel
theorem dX2_add_18 : decode cX2_add 18 = .ok (.getfield 9, 3) := by decide +kernel
theorem dX2_add_21 : decode cX2_add 21 = .ok (.aload_n 0, 1) := by decide +kernel
theorem dX2_add_22 : decode cX2_add 22 = .ok (.getfield 22, 3) := by decide +kernel
theorem dX2_add_25 : decode cX2_add 25 = .ok (.iload_n 1, 1) := by decide +kernel
theorem dX2_add_26 : decode cX2_add 26 = .ok (.iastore, 1) := by decide +kernel
theorem dX2_add_27 : decode cX2_add 27 = .ok (.aload_n 0, 1) := by decide +kernel
theorem dX2_add_28 : decode cX2_add 28 = .ok (.getfield 15, 3) := by decide +kernel
theorem dX2_add_31 : decode cX2_add 31 = .ok (.aload_n 0, 1) := by decide +kernel
theorem dX2_add_32 : decode cX2_add 32 = .ok (.getfield 22, 3) := by decide +kernel
theorem dX2_add_35 : decode cX2_add 35 = .ok (.iload_n 2, 1) := by decide +kernel
theorem dX2_add_36 : decode cX2_add 36 = .ok (.iastore, 1) := by decide +kernel
theorem dX2_add_37 : decode cX2_add 37 = .ok (.aload_n 0, 1) := by decide +kernel
theorem dX2_add_38 : decode cX2_add 38 = .ok (.getfield 18, 3) := by decide +kernel
theorem dX2_add_41 : decode cX2_add 41 = .ok (.aload_n 0, 1) := by decide +kernel
theorem dX2_add_42 : decode cX2_add 42 = .ok (.getfield 22, 3) := by decide +kernel
theorem dX2_add_45 : decode cX2_add 45 = .ok (.lload_n 3, 1) := by decide +kernel
theorem dX2_add_46 : decode cX2_add 46 = .ok (.lastore, 1) := by decide +kernel
theorem dX2_add_47 : decode cX2_add 47 = .ok (.aload_n 0, 1) := by decide +kernel
theorem dX2_add_48 : decode cX2_add 48 = .ok (.dup, 1) := by decide +kernel
theorem dX2_add_49 : decode cX2_add 49 = .ok (.getfield 22, 3) := by decide +kernel
theorem dX2_add_52 : decode cX2_add 52 = .ok (.iconst 1, 1) := by decide +kernel
theorem dX2_add_53 : decode cX2_add 53 = .ok (.iadd, 1) := by decide +kernel
theorem dX2_add_54 : decode cX2_add 54 = .ok (.putfield 22, 3) := by decide +kernel
theorem dX2_add_57 : decode cX2_add 57 = .ok (.return_, 1) := by decide +kernel
theorem dX2_earliest_0 : decode cX2_earliest 0 = .ok (.iconst (-1), 1) := by decide +kernel
theorem dX2_earliest_1 : decode cX2_earliest 1 = .ok (.istore_n 1, 1) := by decide +kernel
theorem dX2_earliest_2 : decode cX2_earliest 2 = .ok (.iconst 0, 1) := by decide +kernel
theorem dX2_earliest_3 : decode cX2_earliest 3 = .ok (.istore_n 2, 1) := by decide +kernel
theorem dX2_earliest_4 : decode cX2_earliest 4 = .ok (.iload_n 2, 1) := by decide +kernel
theorem dX2_earliest_5 : decode cX2_earliest 5 = .ok (.aload_n 0, 1) := by decide +kernel
theorem dX2_earliest_6 : decode cX2_earliest 6 = .ok (.getfield 22, 3) := by decide +kernel
theorem dX2_earliest_9 : decode cX2_earliest 9 = .ok (.if_icmp .ge 37, 3) := by decide +kernel
theorem dX2_earliest_12 : decode cX2_earliest 12 = .ok (.iload_n 2, 1) := by decide +kernel
theorem dX2_earliest_13 : decode cX2_earliest 13 = .ok (.bipush 64, 2) := by decide +kernel
theorem dX2_earliest_15 : decode cX2_earliest 15 = .ok (.if_icmp .ge 31, 3) := by decide +kernel
theorem dX2_earliest_18 : decode cX2_earliest 18 = .ok (.iload_n 1, 1) := by decide +kernel
theorem dX2_earliest_19 : decode cX2_earliest 19 = .ok (.ifCond .lt 19, 3) := by decide +kernel
theorem dX2_earliest_22 : decode cX2_earliest 22 = .ok (.aload_n 0, 1) := by decide +kernel
theorem dX2_earliest_23 : decode cX2_earliest 23 = .ok (.getfield 18, 3) := by decide +kernel
theorem dX2_earliest_26 : decode cX2_earliest 26 = .ok (.iload_n 2, 1) := by decide +kernel
theorem dX2_earliest_27 : decode cX2_earliest 27 = .ok (.laload, 1) := by decide +kernel
theorem dX2_earliest_28 : decode cX2_earliest 28 = .ok (.aload_n 0, 1) := by decide +kernel
theorem dX2_earliest_29 : decode cX2_earliest 29 = .ok (.getfield 18, 3) := by decide +kernel
theorem dX2_earliest_32 : decode cX2_earliest 32 = .ok (.iload_n 1, 1) := by decide +kernel
theorem dX2_earliest_33 : decode cX2_earliest 33 = .ok (.laload, 1) := by decide +kernel
theorem dX2_earliest_34 : decode cX2_earliest 34 = .ok (.lcmp, 1) := by decide +kernel
theorem dX2_earliest_35 : decode cX2_earliest 35 = .ok (.ifCond .ge 5, 3) := by decide +kernel
theorem dX2_earliest_38 : decode cX2_earliest 38 = .ok (.iload_n 2, 1) := by decide +kernel
theorem dX2_earliest_39 : decode cX2_earliest 39 = .ok (.istore_n 1, 1) := by decide +kernel
theorem dX2_earliest_40 : decode cX2_earliest 40 = .ok (.iinc 2 1, 3) := by decide +kernel
theorem dX2_earliest_43 : decode cX2_earliest 43 = .ok (.goto (-39), 3) := by decide +kernel
theorem dX2_earliest_46 : decode cX2_earliest 46 = .ok (.iload_n 1, 1) := by decide +kernel
theorem dX2_earliest_47 : decode cX2_earliest 47 = .ok (.ireturn, 1) := by decide +kernel
theorem dX2_earliestRelease_0 : decode cX2_earliestRelease 0 = .ok (.aload_n 0, 1) := by decide +kernel
theorem dX2_earliestRelease_1 : decode cX2_earliestRelease 1 = .ok (.invokevirtual 26, 3) := by decide +kernel
theorem dX2_earliestRelease_4 : decode cX2_earliestRelease 4 = .ok (.istore_n 1, 1) := by decide +kernel
theorem dX2_earliestRelease_5 : decode cX2_earliestRelease 5 = .ok (.iload_n 1, 1) := by decide +kernel
theorem dX2_earliestRelease_6 : decode cX2_earliestRelease 6 = .ok (.ifCond .ge 9, 3) := by decide +kernel
theorem dX2_earliestRelease_9 : decode cX2_earliestRelease 9 = .ok (.ldc2_w 30, 3) := by decide +kernel
theorem dX2_earliestRelease_12 : decode cX2_earliestRelease 12 = .ok (.goto 9, 3) := by decide +kernel
theorem dX2_earliestRelease_15 : decode cX2_earliestRelease 15 = .ok (.aload_n 0, 1) := by decide +kernel
theorem dX2_earliestRelease_16 : decode cX2_earliestRelease 16 = .ok (.getfield 18, 3) := by decide +kernel
theorem dX2_earliestRelease_19 : decode cX2_earliestRelease 19 = .ok (.iload_n 1, 1) := by decide +kernel
theorem dX2_earliestRelease_20 : decode cX2_earliestRelease 20 = .ok (.laload, 1) := by decide +kernel
theorem dX2_earliestRelease_21 : decode cX2_earliestRelease 21 = .ok (.lreturn, 1) := by decide +kernel
theorem dX2_remove_0 : decode cX2_remove 0 = .ok (.iload_n 1, 1) := by decide +kernel
theorem dX2_remove_1 : decode cX2_remove 1 = .ok (.ifCond .lt 20, 3) := by decide +kernel
theorem dX2_remove_4 : decode cX2_remove 4 = .ok (.iload_n 1, 1) := by decide +kernel
theorem dX2_remove_5 : decode cX2_remove 5 = .ok (.aload_n 0, 1) := by decide +kernel
theorem dX2_remove_6 : decode cX2_remove 6 = .ok (.getfield 22, 3) := by decide +kernel
theorem dX2_remove_9 : decode cX2_remove 9 = .ok (.if_icmp .ge 12, 3) := by decide +kernel
theorem dX2_remove_12 : decode cX2_remove 12 = .ok (.aload_n 0, 1) := by decide +kernel
theorem dX2_remove_13 : decode cX2_remove 13 = .ok (.getfield 22, 3) := by decide +kernel
theorem dX2_remove_16 : decode cX2_remove 16 = .ok (.bipush 64, 2) := by decide +kernel
theorem dX2_remove_18 : decode cX2_remove 18 = .ok (.if_icmp .le 4, 3) := by decide +kernel
theorem dX2_remove_21 : decode cX2_remove 21 = .ok (.return_, 1) := by decide +kernel
theorem dX2_remove_22 : decode cX2_remove 22 = .ok (.aload_n 0, 1) := by decide +kernel
theorem dX2_remove_23 : decode cX2_remove 23 = .ok (.dup, 1) := by decide +kernel
theorem dX2_remove_24 : decode cX2_remove 24 = .ok (.getfield 22, 3) := by decide +kernel
theorem dX2_remove_27 : decode cX2_remove 27 = .ok (.iconst 1, 1) := by decide +kernel
theorem dX2_remove_28 : decode cX2_remove 28 = .ok (.isub, 1) := by decide +kernel
theorem dX2_remove_29 : decode cX2_remove 29 = .ok (.putfield 22, 3) := by decide +kernel
theorem dX2_remove_32 : decode cX2_remove 32 = .ok (.aload_n 0, 1) := by decide +kernel
theorem dX2_remove_33 : decode cX2_remove 33 = .ok (.getfield 9, 3) := by decide +kernel
theorem dX2_remove_36 : decode cX2_remove 36 = .ok (.iload_n 1, 1) := by decide +kernel
theorem dX2_remove_37 : decode cX2_remove 37 = .ok (.iconst 1, 1) := by decide +kernel
theorem dX2_remove_38 : decode cX2_remove 38 = .ok (.iadd, 1) := by decide +kernel
theorem dX2_remove_39 : decode cX2_remove 39 = .ok (.aload_n 0, 1) := by decide +kernel
theorem dX2_remove_40 : decode cX2_remove 40 = .ok (.getfield 9, 3) := by decide +kernel
theorem dX2_remove_43 : decode cX2_remove 43 = .ok (.iload_n 1, 1) := by decide +kernel
theorem dX2_remove_44 : decode cX2_remove 44 = .ok (.aload_n 0, 1) := by decide +kernel
theorem dX2_remove_45 : decode cX2_remove 45 = .ok (.getfield 22, 3) := by decide +kernel
theorem dX2_remove_48 : decode cX2_remove 48 = .ok (.iload_n 1, 1) := by decide +kernel
theorem dX2_remove_49 : decode cX2_remove 49 = .ok (.isub, 1) := by decide +kernel
theorem dX2_remove_50 : decode cX2_remove 50 = .ok (.invokestatic 32, 3) := by decide +kernel
theorem dX2_remove_53 : decode cX2_remove 53 = .ok (.aload_n 0, 1) := by decide +kernel
theorem dX2_remove_54 : decode cX2_remove 54 = .ok (.getfield 15, 3) := by decide +kernel
theorem dX2_remove_57 : decode cX2_remove 57 = .ok (.iload_n 1, 1) := by decide +kernel
theorem dX2_remove_58 : decode cX2_remove 58 = .ok (.iconst 1, 1) := by decide +kernel
theorem dX2_remove_59 : decode cX2_remove 59 = .ok (.iadd, 1) := by decide +kernel
theorem dX2_remove_60 : decode cX2_remove 60 = .ok (.aload_n 0, 1) := by decide +kernel
theorem dX2_remove_61 : decode cX2_remove 61 = .ok (.getfield 15, 3) := by decide +kernel
theorem dX2_remove_64 : decode cX2_remove 64 = .ok (.iload_n 1, 1) := by decide +kernel
theorem dX2_remove_65 : decode cX2_remove 65 = .ok (.aload_n 0, 1) := by decide +kernel
theorem dX2_remove_66 : decode cX2_remove 66 = .ok (.getfield 22, 3) := by decide +kernel
theorem dX2_remove_69 : decode cX2_remove 69 = .ok (.iload_n 1, 1) := by decide +kernel
theorem dX2_remove_70 : decode cX2_remove 70 = .ok (.isub, 1) := by decide +kernel
theorem dX2_remove_71 : decode cX2_remove 71 = .ok (.invokestatic 32, 3) := by decide +kernel
theorem dX2_remove_74 : decode cX2_remove 74 = .ok (.aload_n 0, 1) := by decide +kernel
theorem dX2_remove_75 : decode cX2_remove 75 = .ok (.getfield 18, 3) := by decide +kernel
theorem dX2_remove_78 : decode cX2_remove 78 = .ok (.iload_n 1, 1) := by decide +kernel
theorem dX2_remove_79 : decode cX2_remove 79 = .ok (.iconst 1, 1) := by decide +kernel
theorem dX2_remove_80 : decode cX2_remove 80 = .ok (.iadd, 1) := by decide +kernel
theorem dX2_remove_81 : decode cX2_remove 81 = .ok (.aload_n 0, 1) := by decide +kernel
theorem dX2_remove_82 : decode cX2_remove 82 = .ok (.getfield 18, 3) := by decide +kernel
theorem dX2_remove_85 : decode cX2_remove 85 = .ok (.iload_n 1, 1) := by decide +kernel
theorem dX2_remove_86 : decode cX2_remove 86 = .ok (.aload_n 0, 1) := by decide +kernel
theorem dX2_remove_87 : decode cX2_remove 87 = .ok (.getfield 22, 3) := by decide +kernel
theorem dX2_remove_90 : decode cX2_remove 90 = .ok (.iload_n 1, 1) := by decide +kernel
theorem dX2_remove_91 : decode cX2_remove 91 = .ok (.isub, 1) := by decide +kernel
theorem dX2_remove_92 : decode cX2_remove 92 = .ok (.invokestatic 32, 3) := by decide +kernel
theorem dX2_remove_95 : decode cX2_remove 95 = .ok (.return_, 1) := by decide +kernel
theorem dX2_copyFrom_0 : decode cX2_copyFrom 0 = .ok (.aload_n 0, 1) := by decide +kernel
theorem dX2_copyFrom_1 : decode cX2_copyFrom 1 = .ok (.aload_n 1, 1) := by decide +kernel
theorem dX2_copyFrom_2 : decode cX2_copyFrom 2 = .ok (.getfield 22, 3) := by decide +kernel
theorem dX2_copyFrom_5 : decode cX2_copyFrom 5 = .ok (.putfield 22, 3) := by decide +kernel
theorem dX2_copyFrom_8 : decode cX2_copyFrom 8 = .ok (.aload_n 1, 1) := by decide +kernel
theorem dX2_copyFrom_9 : decode cX2_copyFrom 9 = .ok (.getfield 9, 3) := by decide +kernel
theorem dX2_copyFrom_12 : decode cX2_copyFrom 12 = .ok (.iconst 0, 1) := by decide +kernel
theorem dX2_copyFrom_13 : decode cX2_copyFrom 13 = .ok (.aload_n 0, 1) := by decide +kernel
theorem dX2_copyFrom_14 : decode cX2_copyFrom 14 = .ok (.getfield 9, 3) := by decide +kernel
theorem dX2_copyFrom_17 : decode cX2_copyFrom 17 = .ok (.iconst 0, 1) := by decide +kernel
theorem dX2_copyFrom_18 : decode cX2_copyFrom 18 = .ok (.bipush 64, 2) := by decide +kernel
theorem dX2_copyFrom_20 : decode cX2_copyFrom 20 = .ok (.invokestatic 32, 3) := by decide +kernel
theorem dX2_copyFrom_23 : decode cX2_copyFrom 23 = .ok (.aload_n 1, 1) := by decide +kernel
theorem dX2_copyFrom_24 : decode cX2_copyFrom 24 = .ok (.getfield 15, 3) := by decide +kernel
theorem dX2_copyFrom_27 : decode cX2_copyFrom 27 = .ok (.iconst 0, 1) := by decide +kernel
theorem dX2_copyFrom_28 : decode cX2_copyFrom 28 = .ok (.aload_n 0, 1) := by decide +kernel
theorem dX2_copyFrom_29 : decode cX2_copyFrom 29 = .ok (.getfield 15, 3) := by decide +kernel
theorem dX2_copyFrom_32 : decode cX2_copyFrom 32 = .ok (.iconst 0, 1) := by decide +kernel
theorem dX2_copyFrom_33 : decode cX2_copyFrom 33 = .ok (.bipush 64, 2) := by decide +kernel
theorem dX2_copyFrom_35 : decode cX2_copyFrom 35 = .ok (.invokestatic 32, 3) := by decide +kernel
theorem dX2_copyFrom_38 : decode cX2_copyFrom 38 = .ok (.aload_n 1, 1) := by decide +kernel
theorem dX2_copyFrom_39 : decode cX2_copyFrom 39 = .ok (.getfield 18, 3) := by decide +kernel
theorem dX2_copyFrom_42 : decode cX2_copyFrom 42 = .ok (.iconst 0, 1) := by decide +kernel
theorem dX2_copyFrom_43 : decode cX2_copyFrom 43 = .ok (.aload_n 0, 1) := by decide +kernel
theorem dX2_copyFrom_44 : decode cX2_copyFrom 44 = .ok (.getfield 18, 3) := by decide +kernel
theorem dX2_copyFrom_47 : decode cX2_copyFrom 47 = .ok (.iconst 0, 1) := by decide +kernel
theorem dX2_copyFrom_48 : decode cX2_copyFrom 48 = .ok (.bipush 64, 2) := by decide +kernel
theorem dX2_copyFrom_50 : decode cX2_copyFrom 50 = .ok (.invokestatic 32, 3) := by decide +kernel
theorem dX2_copyFrom_53 : decode cX2_copyFrom 53 = .ok (.return_, 1) := by decide +kernel
theorem dX3_init_0 : decode cX3_init 0 = .ok (.aload_n 0, 1) := by decide +kernel
theorem dX3_init_1 : decode cX3_init 1 = .ok (.invokespecial 3, 3) := by decide +kernel
theorem dX3_init_4 : decode cX3_init 4 = .ok (.aload_n 0, 1) := by decide +kernel
theorem dX3_init_5 : decode cX3_init 5 = .ok (.bipush 16, 2) := by decide +kernel
theorem dX3_init_7 : decode cX3_init 7 = .ok (.newarray .long, 2) := by decide +kernel
theorem dX3_init_9 : decode cX3_init 9 = .ok (.putfield 9, 3) := by decide +kernel
theorem dX3_init_12 : decode cX3_init 12 = .ok (.aload_n 0, 1) := by decide +kernel
theorem dX3_init_13 : decode cX3_init 13 = .ok (.bipush 64, 2) := by decide +kernel
theorem dX3_init_15 : decode cX3_init 15 = .ok (.newarray .int, 2) := by decide +kernel
theorem dX3_init_17 : decode cX3_init 17 = .ok (.putfield 15, 3) := by decide +kernel
theorem dX3_init_20 : decode cX3_init 20 = .ok (.aload_n 0, 1) := by decide +kernel
theorem dX3_init_21 : decode cX3_init 21 = .ok (.bipush 64, 2) := by decide +kernel
theorem dX3_init_23 : decode cX3_init 23 = .ok (.newarray .long, 2) := by decide +kernel
theorem dX3_init_25 : decode cX3_init 25 = .ok (.putfield 19, 3) := by decide +kernel
theorem dX3_init_28 : decode cX3_init 28 = .ok (.aload_n 0, 1) := by decide +kernel
theorem dX3_init_29 : decode cX3_init 29 = .ok (.bipush 64, 2) := by decide +kernel
theorem dX3_init_31 : decode cX3_init 31 = .ok (.newarray .int, 2) := by decide +kernel
theorem dX3_init_33 : decode cX3_init 33 = .ok (.putfield 22, 3) := by decide +kernel
theorem dX3_init_36 : decode cX3_init 36 = .ok (.return_, 1) := by decide +kernel
theorem dX3_restart_0 : decode cX3_restart 0 = .ok (.aload_n 0, 1) := by decide +kernel
theorem dX3_restart_1 : decode cX3_restart 1 = .ok (.iconst 1, 1) := by decide +kernel
theorem dX3_restart_2 : decode cX3_restart 2 = .ok (.putfield 25, 3) := by decide +kernel
theorem dX3_restart_5 : decode cX3_restart 5 = .ok (.aload_n 0, 1) := by decide +kernel
theorem dX3_restart_6 : decode cX3_restart 6 = .ok (.lconst 0, 1) := by decide +kernel
theorem dX3_restart_7 : decode cX3_restart 7 = .ok (.putfield 29, 3) := by decide +kernel
theorem dX3_restart_10 : decode cX3_restart 10 = .ok (.aload_n 0, 1) := by decide +kernel
theorem dX3_restart_11 : decode cX3_restart 11 = .ok (.lconst 0, 1) := by decide +kernel
theorem dX3_restart_12 : decode cX3_restart 12 = .ok (.putfield 33, 3) := by decide +kernel
theorem dX3_restart_15 : decode cX3_restart 15 = .ok (.aload_n 0, 1) := by decide +kernel
theorem dX3_restart_16 : decode cX3_restart 16 = .ok (.iconst 0, 1) := by decide +kernel
theorem dX3_restart_17 : decode cX3_restart 17 = .ok (.putfield 36, 3) := by decide +kernel
theorem dX3_restart_20 : decode cX3_restart 20 = .ok (.iconst 0, 1) := by decide +kernel
theorem dX3_restart_21 : decode cX3_restart 21 = .ok (.istore_n 1, 1) := by decide +kernel
theorem dX3_restart_22 : decode cX3_restart 22 = .ok (.iload_n 1, 1) := by decide +kernel
theorem dX3_restart_23 : decode cX3_restart 23 = .ok (.aload_n 0, 1) := by decide +kernel
theorem dX3_restart_24 : decode cX3_restart 24 = .ok (.getfield 9, 3) := by decide +kernel
theorem dX3_restart_27 : decode cX3_restart 27 = .ok (.arraylength, 1) := by decide +kernel
theorem dX3_restart_28 : decode cX3_restart 28 = .ok (.if_icmp .ge 16, 3) := by decide +kernel
theorem dX3_restart_31 : decode cX3_restart 31 = .ok (.aload_n 0, 1) := by decide +kernel
theorem dX3_restart_32 : decode cX3_restart 32 = .ok (.getfield 9, 3) := by decide +kernel
theorem dX3_restart_35 : decode cX3_restart 35 = .ok (.iload_n 1, 1) := by decide +kernel
theorem dX3_restart_36 : decode cX3_restart 36 = .ok (.lconst 0, 1) := by decide +kernel
theorem dX3_restart_37 : decode cX3_restart 37 = .ok (.lastore, 1) := by decide +kernel
theorem dX3_restart_38 : decode cX3_restart 38 = .ok (.iinc 1 1, 3) := by decide +kernel
theorem dX3_restart_41 : decode cX3_restart 41 = .ok (.goto (-19), 3) := by decide +kernel
theorem dX3_restart_44 : decode cX3_restart 44 = .ok (.return_, 1) := by decide +kernel
theorem dX3_insert_0 : decode cX3_insert 0 = .ok (.aload_n 0, 1) := by decide +kernel
theorem dX3_insert_1 : decode cX3_insert 1 = .ok (.getfield 36, 3) := by decide +kernel
theorem dX3_insert_4 : decode cX3_insert 4 = .ok (.ifCond .lt 12, 3) := by decide +kernel
theorem dX3_insert_7 : decode cX3_insert 7 = .ok (.aload_n 0, 1) := by decide +kernel
theorem dX3_insert_8 : decode cX3_insert 8 = .ok (.getfield 36, 3) := by decide +kernel
theorem dX3_insert_11 : decode cX3_insert 11 = .ok (.bipush 64, 2) := by decide +kernel
theorem dX3_insert_13 : decode cX3_insert 13 = .ok (.if_icmp .lt 4, 3) := by decide +kernel
theorem dX3_insert_16 : decode cX3_insert 16 = .ok (.return_, 1) := by decide +kernel
theorem dX3_insert_17 : decode cX3_insert 17 = .ok (.aload_n 0, 1) := by decide +kernel
theorem dX3_insert_18 : decode cX3_insert 18 = .ok (.getfield 36, 3) := by decide +kernel
theorem dX3_insert_21 : decode cX3_insert 21 = .ok (.istore 6, 2) := by decide +kernel
theorem dX3_insert_23 : decode cX3_insert 23 = .ok (.iload 6, 2) := by decide +kernel
theorem dX3_insert_25 : decode cX3_insert 25 = .ok (.ifCond .le 73, 3) := by decide +kernel
theorem dX3_insert_28 : decode cX3_insert 28 = .ok (.aload_n 0, 1) := by decide +kernel
theorem dX3_insert_29 : decode cX3_insert 29 = .ok (.lload_n 2, 1) := by decide +kernel
theorem dX3_insert_30 : decode cX3_insert 30 = .ok (.iload 4, 2) := by decide +kernel
theorem dX3_insert_32 : decode cX3_insert 32 = .ok (.iload 5, 2) := by decide +kernel
theorem dX3_insert_34 : decode cX3_insert 34 = .ok (.iload 6, 2) := by decide +kernel
theorem dX3_insert_36 : decode cX3_insert 36 = .ok (.iconst 1, 1) := by decide +kernel
theorem dX3_insert_37 : decode cX3_insert 37 = .ok (.isub, 1) := by decide +kernel
theorem dX3_insert_38 : decode cX3_insert 38 = .ok (.invokevirtual 39, 3) := by decide +kernel
theorem dX3_insert_41 : decode cX3_insert 41 = .ok (.ifCond .eq 57, 3) := by decide +kernel
theorem dX3_insert_44 : decode cX3_insert 44 = .ok (.aload_n 0, 1) := by decide +kernel
theorem dX3_insert_45 : decode cX3_insert 45 = .ok (.getfield 15, 3) := by decide +kernel
theorem dX3_insert_48 : decode cX3_insert 48 = .ok (.iload 6, 2) := by decide +kernel
theorem dX3_insert_50 : decode cX3_insert 50 = .ok (.aload_n 0, 1) := by decide +kernel
theorem dX3_insert_51 : decode cX3_insert 51 = .ok (.getfield 15, 3) := by decide +kernel
theorem dX3_insert_54 : decode cX3_insert 54 = .ok (.iload 6, 2) := by decide +kernel
theorem dX3_insert_56 : decode cX3_insert 56 = .ok (.iconst 1, 1) := by decide +kernel
theorem dX3_insert_57 : decode cX3_insert 57 = .ok (.isub, 1) := by decide +kernel
theorem dX3_insert_58 : decode cX3_insert 58 = .ok (.iaload, 1) := by decide +kernel
theorem dX3_insert_59 : decode cX3_insert 59 = .ok (.iastore, 1) := by decide +kernel
theorem dX3_insert_60 : decode cX3_insert 60 = .ok (.aload_n 0, 1) := by decide +kernel
theorem dX3_insert_61 : decode cX3_insert 61 = .ok (.getfield 19, 3) := by decide +kernel
theorem dX3_insert_64 : decode cX3_insert 64 = .ok (.iload 6, 2) := by decide +kernel
theorem dX3_insert_66 : decode cX3_insert 66 = .ok (.aload_n 0, 1) := by decide +kernel
theorem dX3_insert_67 : decode cX3_insert 67 = .ok (.getfield 19, 3) := by decide +kernel
theorem dX3_insert_70 : decode cX3_insert 70 = .ok (.iload 6, 2) := by decide +kernel
theorem dX3_insert_72 : decode cX3_insert 72 = .ok (.iconst 1, 1) := by decide +kernel
theorem dX3_insert_73 : decode cX3_insert 73 = .ok (.isub, 1) := by decide +kernel
theorem dX3_insert_74 : decode cX3_insert 74 = .ok (.laload, 1) := by decide +kernel
theorem dX3_insert_75 : decode cX3_insert 75 = .ok (.lastore, 1) := by decide +kernel
theorem dX3_insert_76 : decode cX3_insert 76 = .ok (.aload_n 0, 1) := by decide +kernel
theorem dX3_insert_77 : decode cX3_insert 77 = .ok (.getfield 22, 3) := by decide +kernel
theorem dX3_insert_80 : decode cX3_insert 80 = .ok (.iload 6, 2) := by decide +kernel
theorem dX3_insert_82 : decode cX3_insert 82 = .ok (.aload_n 0, 1) := by decide +kernel
theorem dX3_insert_83 : decode cX3_insert 83 = .ok (.getfield 22, 3) := by decide +kernel
theorem dX3_insert_86 : decode cX3_insert 86 = .ok (.iload 6, 2) := by decide +kernel
theorem dX3_insert_88 : decode cX3_insert 88 = .ok (.iconst 1, 1) := by decide +kernel
theorem dX3_insert_89 : decode cX3_insert 89 = .ok (.isub, 1) := by decide +kernel
theorem dX3_insert_90 : decode cX3_insert 90 = .ok (.iaload, 1) := by decide +kernel
theorem dX3_insert_91 : decode cX3_insert 91 = .ok (.iastore, 1) := by decide +kernel
theorem dX3_insert_92 : decode cX3_insert 92 = .ok (.iinc 6 (-1), 3) := by decide +kernel
theorem dX3_insert_95 : decode cX3_insert 95 = .ok (.goto (-72), 3) := by decide +kernel
theorem dX3_insert_98 : decode cX3_insert 98 = .ok (.aload_n 0, 1) := by decide +kernel
theorem dX3_insert_99 : decode cX3_insert 99 = .ok (.getfield 15, 3) := by decide +kernel
theorem dX3_insert_102 : decode cX3_insert 102 = .ok (.iload 6, 2) := by decide +kernel
theorem dX3_insert_104 : decode cX3_insert 104 = .ok (.iload_n 1, 1) := by decide +kernel
theorem dX3_insert_105 : decode cX3_insert 105 = .ok (.iastore, 1) := by decide +kernel
theorem dX3_insert_106 : decode cX3_insert 106 = .ok (.aload_n 0, 1) := by decide +kernel
theorem dX3_insert_107 : decode cX3_insert 107 = .ok (.getfield 19, 3) := by decide +kernel
theorem dX3_insert_110 : decode cX3_insert 110 = .ok (.iload 6, 2) := by decide +kernel
theorem dX3_insert_112 : decode cX3_insert 112 = .ok (.lload_n 2, 1) := by decide +kernel
theorem dX3_insert_113 : decode cX3_insert 113 = .ok (.lastore, 1) := by decide +kernel
theorem dX3_insert_114 : decode cX3_insert 114 = .ok (.aload_n 0, 1) := by decide +kernel
theorem dX3_insert_115 : decode cX3_insert 115 = .ok (.getfield 22, 3) := by decide +kernel
theorem dX3_insert_118 : decode cX3_insert 118 = .ok (.iload 6, 2) := by decide +kernel
theorem dX3_insert_120 : decode cX3_insert 120 = .ok (.iload 4, 2) := by decide +kernel
theorem dX3_insert_122 : decode cX3_insert 122 = .ok (.iastore, 1) := by decide +kernel
theorem dX3_insert_123 : decode cX3_insert 123 = .ok (.aload_n 0, 1) := by decide +kernel
theorem dX3_insert_124 : decode cX3_insert 124 = .ok (.dup, 1) := by decide +kernel
theorem dX3_insert_125 : decode cX3_insert 125 = .ok (.getfield 36, 3) := by decide +kernel
theorem dX3_insert_128 : decode cX3_insert 128 = .ok (.iconst 1, 1) := by decide +kernel
theorem dX3_insert_129 : decode cX3_insert 129 = .ok (.iadd, 1) := by decide +kernel
theorem dX3_insert_130 : decode cX3_insert 130 = .ok (.putfield 36, 3) := by decide +kernel
theorem dX3_insert_133 : decode cX3_insert 133 = .ok (.return_, 1) := by decide +kernel
theorem dX3_goesBefore_0 : decode cX3_goesBefore 0 = .ok (.lload_n 1, 1) := by decide +kernel
theorem dX3_goesBefore_1 : decode cX3_goesBefore 1 = .ok (.aload_n 0, 1) := by decide +kernel
theorem dX3_goesBefore_2 : decode cX3_goesBefore 2 = .ok (.getfield 19, 3) := by decide +kernel
theorem dX3_goesBefore_5 : decode cX3_goesBefore 5 = .ok (.iload 5, 2) := by decide +kernel
theorem dX3_goesBefore_7 : decode cX3_goesBefore 7 = .ok (.laload, 1) := by decide +kernel
theorem dX3_goesBefore_8 : decode cX3_goesBefore 8 = .ok (.lcmp, 1) := by decide +kernel
theorem dX3_goesBefore_9 : decode cX3_goesBefore 9 = .ok (.ifCond .eq 21, 3) := by decide +kernel
theorem dX3_goesBefore_12 : decode cX3_goesBefore 12 = .ok (.lload_n 1, 1) := by decide +kernel
theorem dX3_goesBefore_13 : decode cX3_goesBefore 13 = .ok (.aload_n 0, 1) := by decide +kernel
theorem dX3_goesBefore_14 : decode cX3_goesBefore 14 = .ok (.getfield 19, 3) := by decide +kernel
theorem dX3_goesBefore_17 : decode cX3_goesBefore 17 = .ok (.iload 5, 2) := by decide +kernel
theorem dX3_goesBefore_19 : decode cX3_goesBefore 19 = .ok (.laload, 1) := by decide +kernel
theorem dX3_goesBefore_20 : decode cX3_goesBefore 20 = .ok (.lcmp, 1) := by decide +kernel
theorem dX3_goesBefore_21 : decode cX3_goesBefore 21 = .ok (.ifCond .ge 7, 3) := by decide +kernel
theorem dX3_goesBefore_24 : decode cX3_goesBefore 24 = .ok (.iconst 1, 1) := by decide +kernel
theorem dX3_goesBefore_25 : decode cX3_goesBefore 25 = .ok (.goto 4, 3) := by decide +kernel
theorem dX3_goesBefore_28 : decode cX3_goesBefore 28 = .ok (.iconst 0, 1) := by decide +kernel
theorem dX3_goesBefore_29 : decode cX3_goesBefore 29 = .ok (.ireturn, 1) := by decide +kernel
theorem dX3_goesBefore_30 : decode cX3_goesBefore 30 = .ok (.iload 4, 2) := by decide +kernel
theorem dX3_goesBefore_32 : decode cX3_goesBefore 32 = .ok (.ifCond .ne 14, 3) := by decide +kernel
theorem dX3_goesBefore_35 : decode cX3_goesBefore 35 = .ok (.iload_n 3, 1) := by decide +kernel
theorem dX3_goesBefore_36 : decode cX3_goesBefore 36 = .ok (.aload_n 0, 1) := by decide +kernel
theorem dX3_goesBefore_37 : decode cX3_goesBefore 37 = .ok (.getfield 22, 3) := by decide +kernel
theorem dX3_goesBefore_40 : decode cX3_goesBefore 40 = .ok (.iload 5, 2) := by decide +kernel
theorem dX3_goesBefore_42 : decode cX3_goesBefore 42 = .ok (.iaload, 1) := by decide +kernel
theorem dX3_goesBefore_43 : decode cX3_goesBefore 43 = .ok (.if_icmp .ge 7, 3) := by decide +kernel
theorem dX3_goesBefore_46 : decode cX3_goesBefore 46 = .ok (.iconst 1, 1) := by decide +kernel
theorem dX3_goesBefore_47 : decode cX3_goesBefore 47 = .ok (.goto 4, 3) := by decide +kernel
theorem dX3_goesBefore_50 : decode cX3_goesBefore 50 = .ok (.iconst 0, 1) := by decide +kernel
theorem dX3_goesBefore_51 : decode cX3_goesBefore 51 = .ok (.ireturn, 1) := by decide +kernel
theorem dX3_removeFirst_0 : decode cX3_removeFirst 0 = .ok (.aload_n 0, 1) := by decide +kernel
theorem dX3_removeFirst_1 : decode cX3_removeFirst 1 = .ok (.getfield 36, 3) := by decide +kernel
theorem dX3_removeFirst_4 : decode cX3_removeFirst 4 = .ok (.iconst 1, 1) := by decide +kernel
theorem dX3_removeFirst_5 : decode cX3_removeFirst 5 = .ok (.if_icmp .lt 12, 3) := by decide +kernel
theorem dX3_removeFirst_8 : decode cX3_removeFirst 8 = .ok (.aload_n 0, 1) := by decide +kernel
theorem dX3_removeFirst_9 : decode cX3_removeFirst 9 = .ok (.getfield 36, 3) := by decide +kernel
theorem dX3_removeFirst_12 : decode cX3_removeFirst 12 = .ok (.bipush 64, 2) := by decide +kernel
theorem dX3_removeFirst_14 : decode cX3_removeFirst 14 = .ok (.if_icmp .le 5, 3) := by decide +kernel
theorem dX3_removeFirst_17 : decode cX3_removeFirst 17 = .ok (.iconst (-1), 1) := by decide +kernel
theorem dX3_removeFirst_18 : decode cX3_removeFirst 18 = .ok (.ireturn, 1) := by decide +kernel
theorem dX3_removeFirst_19 : decode cX3_removeFirst 19 = .ok (.aload_n 0, 1) := by decide +kernel
theorem dX3_removeFirst_20 : decode cX3_removeFirst 20 = .ok (.getfield 15, 3) := by decide +kernel
theorem dX3_removeFirst_23 : decode cX3_removeFirst 23 = .ok (.iconst 0, 1) := by decide +kernel
theorem dX3_removeFirst_24 : decode cX3_removeFirst 24 = .ok (.iaload, 1) := by decide +kernel
theorem dX3_removeFirst_25 : decode cX3_removeFirst 25 = .ok (.istore_n 1, 1) := by decide +kernel
theorem dX3_removeFirst_26 : decode cX3_removeFirst 26 = .ok (.aload_n 0, 1) := by decide +kernel
theorem dX3_removeFirst_27 : decode cX3_removeFirst 27 = .ok (.aload_n 0, 1) := by decide +kernel
theorem dX3_removeFirst_28 : decode cX3_removeFirst 28 = .ok (.getfield 19, 3) := by decide +kernel
theorem dX3_removeFirst_31 : decode cX3_removeFirst 31 = .ok (.iconst 0, 1) := by decide +kernel
theorem dX3_removeFirst_32 : decode cX3_removeFirst 32 = .ok (.laload, 1) := by decide +kernel
theorem dX3_removeFirst_33 : decode cX3_removeFirst 33 = .ok (.putfield 29, 3) := by decide +kernel
theorem dX3_removeFirst_36 : decode cX3_removeFirst 36 = .ok (.aload_n 0, 1) := by decide +kernel
theorem dX3_removeFirst_37 : decode cX3_removeFirst 37 = .ok (.dup, 1) := by decide +kernel
theorem dX3_removeFirst_38 : decode cX3_removeFirst 38 = .ok (.getfield 36, 3) := by decide +kernel
theorem dX3_removeFirst_41 : decode cX3_removeFirst 41 = .ok (.iconst 1, 1) := by decide +kernel
theorem dX3_removeFirst_42 : decode cX3_removeFirst 42 = .ok (.isub, 1) := by decide +kernel
theorem dX3_removeFirst_43 : decode cX3_removeFirst 43 = .ok (.putfield 36, 3) := by decide +kernel
theorem dX3_removeFirst_46 : decode cX3_removeFirst 46 = .ok (.aload_n 0, 1) := by decide +kernel
theorem dX3_removeFirst_47 : decode cX3_removeFirst 47 = .ok (.getfield 15, 3) := by decide +kernel
theorem dX3_removeFirst_50 : decode cX3_removeFirst 50 = .ok (.iconst 1, 1) := by decide +kernel
theorem dX3_removeFirst_51 : decode cX3_removeFirst 51 = .ok (.aload_n 0, 1) := by decide +kernel
theorem dX3_removeFirst_52 : decode cX3_removeFirst 52 = .ok (.getfield 15, 3) := by decide +kernel
theorem dX3_removeFirst_55 : decode cX3_removeFirst 55 = .ok (.iconst 0, 1) := by decide +kernel
theorem dX3_removeFirst_56 : decode cX3_removeFirst 56 = .ok (.aload_n 0, 1) := by decide +kernel
theorem dX3_removeFirst_57 : decode cX3_removeFirst 57 = .ok (.getfield 36, 3) := by decide +kernel
theorem dX3_removeFirst_60 : decode cX3_removeFirst 60 = .ok (.invokestatic 43, 3) := by decide +kernel
theorem dX3_removeFirst_63 : decode cX3_removeFirst 63 = .ok (.aload_n 0, 1) := by decide +kernel
theorem dX3_removeFirst_64 : decode cX3_removeFirst 64 = .ok (.getfield 19, 3) := by decide +kernel
theorem dX3_removeFirst_67 : decode cX3_removeFirst 67 = .ok (.iconst 1, 1) := by decide +kernel
theorem dX3_removeFirst_68 : decode cX3_removeFirst 68 = .ok (.aload_n 0, 1) := by decide +kernel
theorem dX3_removeFirst_69 : decode cX3_removeFirst 69 = .ok (.getfield 19, 3) := by decide +kernel
theorem dX3_removeFirst_72 : decode cX3_removeFirst 72 = .ok (.iconst 0, 1) := by decide +kernel
theorem dX3_removeFirst_73 : decode cX3_removeFirst 73 = .ok (.aload_n 0, 1) := by decide +kernel
theorem dX3_removeFirst_74 : decode cX3_removeFirst 74 = .ok (.getfield 36, 3) := by decide +kernel
theorem dX3_removeFirst_77 : decode cX3_removeFirst 77 = .ok (.invokestatic 43, 3) := by decide +kernel
theorem dX3_removeFirst_80 : decode cX3_removeFirst 80 = .ok (.aload_n 0, 1) := by decide +kernel
theorem dX3_removeFirst_81 : decode cX3_removeFirst 81 = .ok (.getfield 22, 3) := by decide +kernel
theorem dX3_removeFirst_84 : decode cX3_removeFirst 84 = .ok (.iconst 1, 1) := by decide +kernel
theorem dX3_removeFirst_85 : decode cX3_removeFirst 85 = .ok (.aload_n 0, 1) := by decide +kernel
theorem dX3_removeFirst_86 : decode cX3_removeFirst 86 = .ok (.getfield 22, 3) := by decide +kernel
theorem dX3_removeFirst_89 : decode cX3_removeFirst 89 = .ok (.iconst 0, 1) := by decide +kernel
theorem dX3_removeFirst_90 : decode cX3_removeFirst 90 = .ok (.aload_n 0, 1) := by decide +kernel
theorem dX3_removeFirst_91 : decode cX3_removeFirst 91 = .ok (.getfield 36, 3) := by decide +kernel
theorem dX3_removeFirst_94 : decode cX3_removeFirst 94 = .ok (.invokestatic 43, 3) := by decide +kernel
theorem dX3_removeFirst_97 : decode cX3_removeFirst 97 = .ok (.iload_n 1, 1) := by decide +kernel
theorem dX3_removeFirst_98 : decode cX3_removeFirst 98 = .ok (.ireturn, 1) := by decide +kernel
theorem dX3_copyFrom_0 : decode cX3_copyFrom 0 = .ok (.aload_n 0, 1) := by decide +kernel
theorem dX3_copyFrom_1 : decode cX3_copyFrom 1 = .ok (.aload_n 1, 1) := by decide +kernel
theorem dX3_copyFrom_2 : decode cX3_copyFrom 2 = .ok (.getfield 25, 3) := by decide +kernel
theorem dX3_copyFrom_5 : decode cX3_copyFrom 5 = .ok (.putfield 25, 3) := by decide +kernel
theorem dX3_copyFrom_8 : decode cX3_copyFrom 8 = .ok (.aload_n 0, 1) := by decide +kernel
theorem dX3_copyFrom_9 : decode cX3_copyFrom 9 = .ok (.aload_n 1, 1) := by decide +kernel
theorem dX3_copyFrom_10 : decode cX3_copyFrom 10 = .ok (.getfield 29, 3) := by decide +kernel
theorem dX3_copyFrom_13 : decode cX3_copyFrom 13 = .ok (.putfield 29, 3) := by decide +kernel
theorem dX3_copyFrom_16 : decode cX3_copyFrom 16 = .ok (.aload_n 0, 1) := by decide +kernel
theorem dX3_copyFrom_17 : decode cX3_copyFrom 17 = .ok (.aload_n 1, 1) := by decide +kernel
theorem dX3_copyFrom_18 : decode cX3_copyFrom 18 = .ok (.getfield 33, 3) := by decide +kernel
theorem dX3_copyFrom_21 : decode cX3_copyFrom 21 = .ok (.putfield 33, 3) := by decide +kernel
theorem dX3_copyFrom_24 : decode cX3_copyFrom 24 = .ok (.aload_n 0, 1) := by decide +kernel
theorem dX3_copyFrom_25 : decode cX3_copyFrom 25 = .ok (.aload_n 1, 1) := by decide +kernel
theorem dX3_copyFrom_26 : decode cX3_copyFrom 26 = .ok (.getfield 36, 3) := by decide +kernel
theorem dX3_copyFrom_29 : decode cX3_copyFrom 29 = .ok (.putfield 36, 3) := by decide +kernel
theorem dX3_copyFrom_32 : decode cX3_copyFrom 32 = .ok (.aload_n 1, 1) := by decide +kernel
theorem dX3_copyFrom_33 : decode cX3_copyFrom 33 = .ok (.getfield 9, 3) := by decide +kernel
theorem dX3_copyFrom_36 : decode cX3_copyFrom 36 = .ok (.iconst 0, 1) := by decide +kernel
theorem dX3_copyFrom_37 : decode cX3_copyFrom 37 = .ok (.aload_n 0, 1) := by decide +kernel
theorem dX3_copyFrom_38 : decode cX3_copyFrom 38 = .ok (.getfield 9, 3) := by decide +kernel
theorem dX3_copyFrom_41 : decode cX3_copyFrom 41 = .ok (.iconst 0, 1) := by decide +kernel
theorem dX3_copyFrom_42 : decode cX3_copyFrom 42 = .ok (.bipush 16, 2) := by decide +kernel
theorem dX3_copyFrom_44 : decode cX3_copyFrom 44 = .ok (.invokestatic 43, 3) := by decide +kernel
theorem dX3_copyFrom_47 : decode cX3_copyFrom 47 = .ok (.aload_n 1, 1) := by decide +kernel
theorem dX3_copyFrom_48 : decode cX3_copyFrom 48 = .ok (.getfield 15, 3) := by decide +kernel
theorem dX3_copyFrom_51 : decode cX3_copyFrom 51 = .ok (.iconst 0, 1) := by decide +kernel
theorem dX3_copyFrom_52 : decode cX3_copyFrom 52 = .ok (.aload_n 0, 1) := by decide +kernel
theorem dX3_copyFrom_53 : decode cX3_copyFrom 53 = .ok (.getfield 15, 3) := by decide +kernel
theorem dX3_copyFrom_56 : decode cX3_copyFrom 56 = .ok (.iconst 0, 1) := by decide +kernel
theorem dX3_copyFrom_57 : decode cX3_copyFrom 57 = .ok (.bipush 64, 2) := by decide +kernel
theorem dX3_copyFrom_59 : decode cX3_copyFrom 59 = .ok (.invokestatic 43, 3) := by decide +kernel
theorem dX3_copyFrom_62 : decode cX3_copyFrom 62 = .ok (.aload_n 1, 1) := by decide +kernel
theorem dX3_copyFrom_63 : decode cX3_copyFrom 63 = .ok (.getfield 19, 3) := by decide +kernel
theorem dX3_copyFrom_66 : decode cX3_copyFrom 66 = .ok (.iconst 0, 1) := by decide +kernel
theorem dX3_copyFrom_67 : decode cX3_copyFrom 67 = .ok (.aload_n 0, 1) := by decide +kernel
theorem dX3_copyFrom_68 : decode cX3_copyFrom 68 = .ok (.getfield 19, 3) := by decide +kernel
theorem dX3_copyFrom_71 : decode cX3_copyFrom 71 = .ok (.iconst 0, 1) := by decide +kernel
theorem dX3_copyFrom_72 : decode cX3_copyFrom 72 = .ok (.bipush 64, 2) := by decide +kernel
theorem dX3_copyFrom_74 : decode cX3_copyFrom 74 = .ok (.invokestatic 43, 3) := by decide +kernel
theorem dX3_copyFrom_77 : decode cX3_copyFrom 77 = .ok (.aload_n 1, 1) := by decide +kernel
theorem dX3_copyFrom_78 : decode cX3_copyFrom 78 = .ok (.getfield 22, 3) := by decide +kernel
theorem dX3_copyFrom_81 : decode cX3_copyFrom 81 = .ok (.iconst 0, 1) := by decide +kernel
theorem dX3_copyFrom_82 : decode cX3_copyFrom 82 = .ok (.aload_n 0, 1) := by decide +kernel
theorem dX3_copyFrom_83 : decode cX3_copyFrom 83 = .ok (.getfield 22, 3) := by decide +kernel
theorem dX3_copyFrom_86 : decode cX3_copyFrom 86 = .ok (.iconst 0, 1) := by decide +kernel
theorem dX3_copyFrom_87 : decode cX3_copyFrom 87 = .ok (.bipush 64, 2) := by decide +kernel
theorem dX3_copyFrom_89 : decode cX3_copyFrom 89 = .ok (.invokestatic 43, 3) := by decide +kernel
theorem dX3_copyFrom_92 : decode cX3_copyFrom 92 = .ok (.return_, 1) := by decide +kernel
theorem dX4_init_0 : decode cX4_init 0 = .ok (.aload_n 0, 1) := by decide +kernel
theorem dX4_init_1 : decode cX4_init 1 = .ok (.invokespecial 3, 3) := by decide +kernel
theorem dX4_init_4 : decode cX4_init 4 = .ok (.aload_n 0, 1) := by decide +kernel
theorem dX4_init_5 : decode cX4_init 5 = .ok (.sipush 500, 3) := by decide +kernel
theorem dX4_init_8 : decode cX4_init 8 = .ok (.newarray .int, 2) := by decide +kernel
theorem dX4_init_10 : decode cX4_init 10 = .ok (.putfield 9, 3) := by decide +kernel
theorem dX4_init_13 : decode cX4_init 13 = .ok (.aload_n 0, 1) := by decide +kernel
theorem dX4_init_14 : decode cX4_init 14 = .ok (.sipush 500, 3) := by decide +kernel
theorem dX4_init_17 : decode cX4_init 17 = .ok (.newarray .int, 2) := by decide +kernel
theorem dX4_init_19 : decode cX4_init 19 = .ok (.putfield 15, 3) := by decide +kernel
theorem dX4_init_22 : decode cX4_init 22 = .ok (.aload_n 0, 1) := by decide +kernel
theorem dX4_init_23 : decode cX4_init 23 = .ok (.sipush 500, 3) := by decide +kernel
theorem dX4_init_26 : decode cX4_init 26 = .ok (.newarray .int, 2) := by decide +kernel
theorem dX4_init_28 : decode cX4_init 28 = .ok (.putfield 18, 3) := by decide +kernel
theorem dX4_init_31 : decode cX4_init 31 = .ok (.aload_n 0, 1) := by decide +kernel
theorem dX4_init_32 : decode cX4_init 32 = .ok (.sipush 500, 3) := by decide +kernel
theorem dX4_init_35 : decode cX4_init 35 = .ok (.newarray .long, 2) := by decide +kernel
theorem dX4_init_37 : decode cX4_init 37 = .ok (.putfield 21, 3) := by decide +kernel
theorem dX4_init_40 : decode cX4_init 40 = .ok (.aload_n 0, 1) := by decide +kernel
theorem dX4_init_41 : decode cX4_init 41 = .ok (.sipush 500, 3) := by decide +kernel
theorem dX4_init_44 : decode cX4_init 44 = .ok (.newarray .long, 2) := by decide +kernel
theorem dX4_init_46 : decode cX4_init 46 = .ok (.putfield 25, 3) := by decide +kernel
theorem dX4_init_49 : decode cX4_init 49 = .ok (.aload_n 0, 1) := by decide +kernel
theorem dX4_init_50 : decode cX4_init 50 = .ok (.sipush 500, 3) := by decide +kernel
theorem dX4_init_53 : decode cX4_init 53 = .ok (.newarray .long, 2) := by decide +kernel
theorem dX4_init_55 : decode cX4_init 55 = .ok (.putfield 28, 3) := by decide +kernel
theorem dX4_init_58 : decode cX4_init 58 = .ok (.return_, 1) := by decide +kernel
theorem dX4_has_0 : decode cX4_has 0 = .ok (.iload_n 1, 1) := by decide +kernel
theorem dX4_has_1 : decode cX4_has 1 = .ok (.ifCond .lt 22, 3) := by decide +kernel
theorem dX4_has_4 : decode cX4_has 4 = .ok (.iload_n 1, 1) := by decide +kernel
theorem dX4_has_5 : decode cX4_has 5 = .ok (.aload_n 0, 1) := by decide +kernel
theorem dX4_has_6 : decode cX4_has 6 = .ok (.getfield 31, 3) := by decide +kernel
theorem dX4_has_9 : decode cX4_has 9 = .ok (.if_icmp .ge 14, 3) := by decide +kernel
theorem dX4_has_12 : decode cX4_has 12 = .ok (.iload_n 1, 1) := by decide +kernel
theorem dX4_has_13 : decode cX4_has 13 = .ok (.sipush 500, 3) := by decide +kernel
theorem dX4_has_16 : decode cX4_has 16 = .ok (.if_icmp .ge 7, 3) := by decide +kernel
theorem dX4_has_19 : decode cX4_has 19 = .ok (.iconst 1, 1) := by decide +kernel
theorem dX4_has_20 : decode cX4_has 20 = .ok (.goto 4, 3) := by decide +kernel
theorem dX4_has_23 : decode cX4_has 23 = .ok (.iconst 0, 1) := by decide +kernel
theorem dX4_has_24 : decode cX4_has 24 = .ok (.ireturn, 1) := by decide +kernel
theorem dX4_add_0 : decode cX4_add 0 = .ok (.aload_n 0, 1) := by decide +kernel
theorem dX4_add_1 : decode cX4_add 1 = .ok (.getfield 31, 3) := by decide +kernel
theorem dX4_add_4 : decode cX4_add 4 = .ok (.istore 8, 2) := by decide +kernel
theorem dX4_add_6 : decode cX4_add 6 = .ok (.iload 8, 2) := by decide +kernel
theorem dX4_add_8 : decode cX4_add 8 = .ok (.ifCond .lt 11, 3) := by decide +kernel
theorem dX4_add_11 : decode cX4_add 11 = .ok (.iload 8, 2) := by decide +kernel
theorem dX4_add_13 : decode cX4_add 13 = .ok (.sipush 500, 3) := by decide +kernel
theorem dX4_add_16 : decode cX4_add 16 = .ok (.if_icmp .lt 5, 3) := by decide +kernel
theorem dX4_add_19 : decode cX4_add 19 = .ok (.iconst (-1), 1) := by decide +kernel
theorem dX4_add_20 : decode cX4_add 20 = .ok (.ireturn, 1) := by decide +kernel
theorem dX4_add_21 : decode cX4_add 21 = .ok (.aload_n 0, 1) := by decide +kernel
theorem dX4_add_22 : decode cX4_add 22 = .ok (.getfield 9, 3) := by decide +kernel
theorem dX4_add_25 : decode cX4_add 25 = .ok (.iload 8, 2) := by decide +kernel
theorem dX4_add_27 : decode cX4_add 27 = .ok (.iload_n 1, 1) := by decide +kernel
theorem dX4_add_28 : decode cX4_add 28 = .ok (.iastore, 1) := by decide +kernel
theorem dX4_add_29 : decode cX4_add 29 = .ok (.aload_n 0, 1) := by decide +kernel
theorem dX4_add_30 : decode cX4_add 30 = .ok (.getfield 15, 3) := by decide +kernel
theorem dX4_add_33 : decode cX4_add 33 = .ok (.iload 8, 2) := by decide +kernel
theorem dX4_add_35 : decode cX4_add 35 = .ok (.iload_n 2, 1) := by decide +kernel
theorem dX4_add_36 : decode cX4_add 36 = .ok (.iastore, 1) := by decide +kernel
theorem dX4_add_37 : decode cX4_add 37 = .ok (.aload_n 0, 1) := by decide +kernel
theorem dX4_add_38 : decode cX4_add 38 = .ok (.getfield 18, 3) := by decide +kernel
theorem dX4_add_41 : decode cX4_add 41 = .ok (.iload 8, 2) := by decide +kernel
theorem dX4_add_43 : decode cX4_add 43 = .ok (.iload_n 3, 1) := by decide +kernel
theorem dX4_add_44 : decode cX4_add 44 = .ok (.iastore, 1) := by decide +kernel
theorem dX4_add_45 : decode cX4_add 45 = .ok (.aload_n 0, 1) := by decide +kernel
theorem dX4_add_46 : decode cX4_add 46 = .ok (.getfield 21, 3) := by decide +kernel
theorem dX4_add_49 : decode cX4_add 49 = .ok (.iload 8, 2) := by decide +kernel
theorem dX4_add_51 : decode cX4_add 51 = .ok (.lload 4, 2) := by decide +kernel
theorem dX4_add_53 : decode cX4_add 53 = .ok (.lastore, 1) := by decide +kernel
theorem dX4_add_54 : decode cX4_add 54 = .ok (.aload_n 0, 1) := by decide +kernel
theorem dX4_add_55 : decode cX4_add 55 = .ok (.getfield 25, 3) := by decide +kernel
theorem dX4_add_58 : decode cX4_add 58 = .ok (.iload 8, 2) := by decide +kernel
theorem dX4_add_60 : decode cX4_add 60 = .ok (.lload 6, 2) := by decide +kernel
theorem dX4_add_62 : decode cX4_add 62 = .ok (.lastore, 1) := by decide +kernel
theorem dX4_add_63 : decode cX4_add 63 = .ok (.aload_n 0, 1) := by decide +kernel
theorem dX4_add_64 : decode cX4_add 64 = .ok (.getfield 28, 3) := by decide +kernel
theorem dX4_add_67 : decode cX4_add 67 = .ok (.iload 8, 2) := by decide +kernel
theorem dX4_add_69 : decode cX4_add 69 = .ok (.ldc2_w 35, 3) := by decide +kernel
theorem dX4_add_72 : decode cX4_add 72 = .ok (.lastore, 1) := by decide +kernel
theorem dX4_add_73 : decode cX4_add 73 = .ok (.aload_n 0, 1) := by decide +kernel
theorem dX4_add_74 : decode cX4_add 74 = .ok (.dup, 1) := by decide +kernel
theorem dX4_add_75 : decode cX4_add 75 = .ok (.getfield 31, 3) := by decide +kernel
theorem dX4_add_78 : decode cX4_add 78 = .ok (.iconst 1, 1) := by decide +kernel
theorem dX4_add_79 : decode cX4_add 79 = .ok (.iadd, 1) := by decide +kernel
theorem dX4_add_80 : decode cX4_add 80 = .ok (.putfield 31, 3) := by decide +kernel
theorem dX4_add_83 : decode cX4_add 83 = .ok (.iload 8, 2) := by decide +kernel
theorem dX4_add_85 : decode cX4_add 85 = .ok (.ireturn, 1) := by decide +kernel
theorem dX4_copyFrom_0 : decode cX4_copyFrom 0 = .ok (.iconst 0, 1) := by decide +kernel
theorem dX4_copyFrom_1 : decode cX4_copyFrom 1 = .ok (.aload_n 1, 1) := by decide +kernel
theorem dX4_copyFrom_2 : decode cX4_copyFrom 2 = .ok (.getfield 31, 3) := by decide +kernel
theorem dX4_copyFrom_5 : decode cX4_copyFrom 5 = .ok (.sipush 500, 3) := by decide +kernel
theorem dX4_copyFrom_8 : decode cX4_copyFrom 8 = .ok (.invokestatic 37, 3) := by decide +kernel
theorem dX4_copyFrom_11 : decode cX4_copyFrom 11 = .ok (.invokestatic 43, 3) := by decide +kernel
theorem dX4_copyFrom_14 : decode cX4_copyFrom 14 = .ok (.istore_n 2, 1) := by decide +kernel
theorem dX4_copyFrom_15 : decode cX4_copyFrom 15 = .ok (.aload_n 0, 1) := by decide +kernel
theorem dX4_copyFrom_16 : decode cX4_copyFrom 16 = .ok (.iload_n 2, 1) := by decide +kernel
theorem dX4_copyFrom_17 : decode cX4_copyFrom 17 = .ok (.putfield 31, 3) := by decide +kernel
theorem dX4_copyFrom_20 : decode cX4_copyFrom 20 = .ok (.aload_n 1, 1) := by decide +kernel
theorem dX4_copyFrom_21 : decode cX4_copyFrom 21 = .ok (.getfield 9, 3) := by decide +kernel
theorem dX4_copyFrom_24 : decode cX4_copyFrom 24 = .ok (.iconst 0, 1) := by decide +kernel
theorem dX4_copyFrom_25 : decode cX4_copyFrom 25 = .ok (.aload_n 0, 1) := by decide +kernel
theorem dX4_copyFrom_26 : decode cX4_copyFrom 26 = .ok (.getfield 9, 3) := by decide +kernel
theorem dX4_copyFrom_29 : decode cX4_copyFrom 29 = .ok (.iconst 0, 1) := by decide +kernel
theorem dX4_copyFrom_30 : decode cX4_copyFrom 30 = .ok (.iload_n 2, 1) := by decide +kernel
theorem dX4_copyFrom_31 : decode cX4_copyFrom 31 = .ok (.invokestatic 46, 3) := by decide +kernel
theorem dX4_copyFrom_34 : decode cX4_copyFrom 34 = .ok (.aload_n 1, 1) := by decide +kernel
theorem dX4_copyFrom_35 : decode cX4_copyFrom 35 = .ok (.getfield 15, 3) := by decide +kernel
theorem dX4_copyFrom_38 : decode cX4_copyFrom 38 = .ok (.iconst 0, 1) := by decide +kernel
theorem dX4_copyFrom_39 : decode cX4_copyFrom 39 = .ok (.aload_n 0, 1) := by decide +kernel
theorem dX4_copyFrom_40 : decode cX4_copyFrom 40 = .ok (.getfield 15, 3) := by decide +kernel
theorem dX4_copyFrom_43 : decode cX4_copyFrom 43 = .ok (.iconst 0, 1) := by decide +kernel
theorem dX4_copyFrom_44 : decode cX4_copyFrom 44 = .ok (.iload_n 2, 1) := by decide +kernel
theorem dX4_copyFrom_45 : decode cX4_copyFrom 45 = .ok (.invokestatic 46, 3) := by decide +kernel
theorem dX4_copyFrom_48 : decode cX4_copyFrom 48 = .ok (.aload_n 1, 1) := by decide +kernel
theorem dX4_copyFrom_49 : decode cX4_copyFrom 49 = .ok (.getfield 18, 3) := by decide +kernel
theorem dX4_copyFrom_52 : decode cX4_copyFrom 52 = .ok (.iconst 0, 1) := by decide +kernel
theorem dX4_copyFrom_53 : decode cX4_copyFrom 53 = .ok (.aload_n 0, 1) := by decide +kernel
theorem dX4_copyFrom_54 : decode cX4_copyFrom 54 = .ok (.getfield 18, 3) := by decide +kernel
theorem dX4_copyFrom_57 : decode cX4_copyFrom 57 = .ok (.iconst 0, 1) := by decide +kernel
theorem dX4_copyFrom_58 : decode cX4_copyFrom 58 = .ok (.iload_n 2, 1) := by decide +kernel
theorem dX4_copyFrom_59 : decode cX4_copyFrom 59 = .ok (.invokestatic 46, 3) := by decide +kernel
theorem dX4_copyFrom_62 : decode cX4_copyFrom 62 = .ok (.aload_n 1, 1) := by decide +kernel
theorem dX4_copyFrom_63 : decode cX4_copyFrom 63 = .ok (.getfield 21, 3) := by decide +kernel
theorem dX4_copyFrom_66 : decode cX4_copyFrom 66 = .ok (.iconst 0, 1) := by decide +kernel
theorem dX4_copyFrom_67 : decode cX4_copyFrom 67 = .ok (.aload_n 0, 1) := by decide +kernel
theorem dX4_copyFrom_68 : decode cX4_copyFrom 68 = .ok (.getfield 21, 3) := by decide +kernel
theorem dX4_copyFrom_71 : decode cX4_copyFrom 71 = .ok (.iconst 0, 1) := by decide +kernel
theorem dX4_copyFrom_72 : decode cX4_copyFrom 72 = .ok (.iload_n 2, 1) := by decide +kernel
theorem dX4_copyFrom_73 : decode cX4_copyFrom 73 = .ok (.invokestatic 46, 3) := by decide +kernel
theorem dX4_copyFrom_76 : decode cX4_copyFrom 76 = .ok (.aload_n 1, 1) := by decide +kernel
theorem dX4_copyFrom_77 : decode cX4_copyFrom 77 = .ok (.getfield 25, 3) := by decide +kernel
theorem dX4_copyFrom_80 : decode cX4_copyFrom 80 = .ok (.iconst 0, 1) := by decide +kernel
theorem dX4_copyFrom_81 : decode cX4_copyFrom 81 = .ok (.aload_n 0, 1) := by decide +kernel
theorem dX4_copyFrom_82 : decode cX4_copyFrom 82 = .ok (.getfield 25, 3) := by decide +kernel
theorem dX4_copyFrom_85 : decode cX4_copyFrom 85 = .ok (.iconst 0, 1) := by decide +kernel
theorem dX4_copyFrom_86 : decode cX4_copyFrom 86 = .ok (.iload_n 2, 1) := by decide +kernel
theorem dX4_copyFrom_87 : decode cX4_copyFrom 87 = .ok (.invokestatic 46, 3) := by decide +kernel
theorem dX4_copyFrom_90 : decode cX4_copyFrom 90 = .ok (.aload_n 1, 1) := by decide +kernel
theorem dX4_copyFrom_91 : decode cX4_copyFrom 91 = .ok (.getfield 28, 3) := by decide +kernel
theorem dX4_copyFrom_94 : decode cX4_copyFrom 94 = .ok (.iconst 0, 1) := by decide +kernel
theorem dX4_copyFrom_95 : decode cX4_copyFrom 95 = .ok (.aload_n 0, 1) := by decide +kernel
theorem dX4_copyFrom_96 : decode cX4_copyFrom 96 = .ok (.getfield 28, 3) := by decide +kernel
theorem dX4_copyFrom_99 : decode cX4_copyFrom 99 = .ok (.iconst 0, 1) := by decide +kernel
theorem dX4_copyFrom_100 : decode cX4_copyFrom 100 = .ok (.iload_n 2, 1) := by decide +kernel
theorem dX4_copyFrom_101 : decode cX4_copyFrom 101 = .ok (.invokestatic 46, 3) := by decide +kernel
theorem dX4_copyFrom_104 : decode cX4_copyFrom 104 = .ok (.return_, 1) := by decide +kernel
theorem dX5_init_0 : decode cX5_init 0 = .ok (.aload_n 0, 1) := by decide +kernel
theorem dX5_init_1 : decode cX5_init 1 = .ok (.invokespecial 3, 3) := by decide +kernel
theorem dX5_init_4 : decode cX5_init 4 = .ok (.aload_n 0, 1) := by decide +kernel
theorem dX5_init_5 : decode cX5_init 5 = .ok (.bipush 12, 2) := by decide +kernel
theorem dX5_init_7 : decode cX5_init 7 = .ok (.newarray .int, 2) := by decide +kernel
theorem dX5_init_9 : decode cX5_init 9 = .ok (.putfield 9, 3) := by decide +kernel
theorem dX5_init_12 : decode cX5_init 12 = .ok (.aload_n 0, 1) := by decide +kernel
theorem dX5_init_13 : decode cX5_init 13 = .ok (.bipush 12, 2) := by decide +kernel
theorem dX5_init_15 : decode cX5_init 15 = .ok (.newarray .int, 2) := by decide +kernel
theorem dX5_init_17 : decode cX5_init 17 = .ok (.putfield 15, 3) := by decide +kernel
theorem dX5_init_20 : decode cX5_init 20 = .ok (.aload_n 0, 1) := by decide +kernel
theorem dX5_init_21 : decode cX5_init 21 = .ok (.bipush 12, 2) := by decide +kernel
theorem dX5_init_23 : decode cX5_init 23 = .ok (.newarray .int, 2) := by decide +kernel
theorem dX5_init_25 : decode cX5_init 25 = .ok (.putfield 18, 3) := by decide +kernel
theorem dX5_init_28 : decode cX5_init 28 = .ok (.aload_n 0, 1) := by decide +kernel
theorem dX5_init_29 : decode cX5_init 29 = .ok (.bipush 12, 2) := by decide +kernel
theorem dX5_init_31 : decode cX5_init 31 = .ok (.newarray .int, 2) := by decide +kernel
theorem dX5_init_33 : decode cX5_init 33 = .ok (.putfield 21, 3) := by decide +kernel
theorem dX5_init_36 : decode cX5_init 36 = .ok (.aload_n 0, 1) := by decide +kernel
theorem dX5_init_37 : decode cX5_init 37 = .ok (.bipush 12, 2) := by decide +kernel
theorem dX5_init_39 : decode cX5_init 39 = .ok (.newarray .int, 2) := by decide +kernel
theorem dX5_init_41 : decode cX5_init 41 = .ok (.putfield 24, 3) := by decide +kernel
theorem dX5_init_44 : decode cX5_init 44 = .ok (.aload_n 0, 1) := by decide +kernel
theorem dX5_init_45 : decode cX5_init 45 = .ok (.bipush 12, 2) := by decide +kernel
theorem dX5_init_47 : decode cX5_init 47 = .ok (.newarray .int, 2) := by decide +kernel
theorem dX5_init_49 : decode cX5_init 49 = .ok (.putfield 27, 3) := by decide +kernel
theorem dX5_init_52 : decode cX5_init 52 = .ok (.aload_n 0, 1) := by decide +kernel
theorem dX5_init_53 : decode cX5_init 53 = .ok (.bipush 12, 2) := by decide +kernel
theorem dX5_init_55 : decode cX5_init 55 = .ok (.newarray .int, 2) := by decide +kernel
theorem dX5_init_57 : decode cX5_init 57 = .ok (.putfield 30, 3) := by decide +kernel
theorem dX5_init_60 : decode cX5_init 60 = .ok (.aload_n 0, 1) := by decide +kernel
theorem dX5_init_61 : decode cX5_init 61 = .ok (.bipush 12, 2) := by decide +kernel
theorem dX5_init_63 : decode cX5_init 63 = .ok (.newarray .int, 2) := by decide +kernel
theorem dX5_init_65 : decode cX5_init 65 = .ok (.putfield 33, 3) := by decide +kernel
theorem dX5_init_68 : decode cX5_init 68 = .ok (.aload_n 0, 1) := by decide +kernel
theorem dX5_init_69 : decode cX5_init 69 = .ok (.bipush 120, 2) := by decide +kernel
theorem dX5_init_71 : decode cX5_init 71 = .ok (.newarray .int, 2) := by decide +kernel
theorem dX5_init_73 : decode cX5_init 73 = .ok (.putfield 36, 3) := by decide +kernel
theorem dX5_init_76 : decode cX5_init 76 = .ok (.return_, 1) := by decide +kernel
theorem dX5_empty_0 : decode cX5_empty 0 = .ok (.aload_n 0, 1) := by decide +kernel
theorem dX5_empty_1 : decode cX5_empty 1 = .ok (.iconst 0, 1) := by decide +kernel
theorem dX5_empty_2 : decode cX5_empty 2 = .ok (.putfield 39, 3) := by decide +kernel
theorem dX5_empty_5 : decode cX5_empty 5 = .ok (.aload_n 0, 1) := by decide +kernel
theorem dX5_empty_6 : decode cX5_empty 6 = .ok (.iconst 0, 1) := by decide +kernel
theorem dX5_empty_7 : decode cX5_empty 7 = .ok (.putfield 43, 3) := by decide +kernel
theorem dX5_empty_10 : decode cX5_empty 10 = .ok (.return_, 1) := by decide +kernel
theorem dX5_hasNode_0 : decode cX5_hasNode 0 = .ok (.iload_n 1, 1) := by decide +kernel
theorem dX5_hasNode_1 : decode cX5_hasNode 1 = .ok (.ifCond .lt 21, 3) := by decide +kernel
theorem dX5_hasNode_4 : decode cX5_hasNode 4 = .ok (.iload_n 1, 1) := by decide +kernel
theorem dX5_hasNode_5 : decode cX5_hasNode 5 = .ok (.aload_n 0, 1) := by decide +kernel
theorem dX5_hasNode_6 : decode cX5_hasNode 6 = .ok (.getfield 39, 3) := by decide +kernel
theorem dX5_hasNode_9 : decode cX5_hasNode 9 = .ok (.if_icmp .ge 13, 3) := by decide +kernel
theorem dX5_hasNode_12 : decode cX5_hasNode 12 = .ok (.iload_n 1, 1) := by decide +kernel
theorem dX5_hasNode_13 : decode cX5_hasNode 13 = .ok (.bipush 12, 2) := by decide +kernel
theorem dX5_hasNode_15 : decode cX5_hasNode 15 = .ok (.if_icmp .ge 7, 3) := by decide +kernel
theorem dX5_hasNode_18 : decode cX5_hasNode 18 = .ok (.iconst 1, 1) := by decide +kernel
theorem dX5_hasNode_19 : decode cX5_hasNode 19 = .ok (.goto 4, 3) := by decide +kernel
theorem dX5_hasNode_22 : decode cX5_hasNode 22 = .ok (.iconst 0, 1) := by decide +kernel
theorem dX5_hasNode_23 : decode cX5_hasNode 23 = .ok (.ireturn, 1) := by decide +kernel
theorem dX5_isLeaf_0 : decode cX5_isLeaf 0 = .ok (.iload_n 1, 1) := by decide +kernel
theorem dX5_isLeaf_1 : decode cX5_isLeaf 1 = .ok (.ifCond .lt 30, 3) := by decide +kernel
theorem dX5_isLeaf_4 : decode cX5_isLeaf 4 = .ok (.iload_n 1, 1) := by decide +kernel
theorem dX5_isLeaf_5 : decode cX5_isLeaf 5 = .ok (.aload_n 0, 1) := by decide +kernel
theorem dX5_isLeaf_6 : decode cX5_isLeaf 6 = .ok (.getfield 39, 3) := by decide +kernel
theorem dX5_isLeaf_9 : decode cX5_isLeaf 9 = .ok (.if_icmp .ge 22, 3) := by decide +kernel
theorem dX5_isLeaf_12 : decode cX5_isLeaf 12 = .ok (.iload_n 1, 1) := by decide +kernel
theorem dX5_isLeaf_13 : decode cX5_isLeaf 13 = .ok (.bipush 12, 2) := by decide +kernel
theorem dX5_isLeaf_15 : decode cX5_isLeaf 15 = .ok (.if_icmp .ge 16, 3) := by decide +kernel
theorem dX5_isLeaf_18 : decode cX5_isLeaf 18 = .ok (.aload_n 0, 1) := by decide +kernel
theorem dX5_isLeaf_19 : decode cX5_isLeaf 19 = .ok (.getfield 15, 3) := by decide +kernel
theorem dX5_isLeaf_22 : decode cX5_isLeaf 22 = .ok (.iload_n 1, 1) := by decide +kernel
theorem dX5_isLeaf_23 : decode cX5_isLeaf 23 = .ok (.iaload, 1) := by decide +kernel
theorem dX5_isLeaf_24 : decode cX5_isLeaf 24 = .ok (.ifCond .ne 7, 3) := by decide +kernel
theorem dX5_isLeaf_27 : decode cX5_isLeaf 27 = .ok (.iconst 1, 1) := by decide +kernel
theorem dX5_isLeaf_28 : decode cX5_isLeaf 28 = .ok (.goto 4, 3) := by decide +kernel
theorem dX5_isLeaf_31 : decode cX5_isLeaf 31 = .ok (.iconst 0, 1) := by decide +kernel
theorem dX5_isLeaf_32 : decode cX5_isLeaf 32 = .ok (.ireturn, 1) := by decide +kernel
theorem dX5_hasClass_0 : decode cX5_hasClass 0 = .ok (.aload_n 0, 1) := by decide +kernel
theorem dX5_hasClass_1 : decode cX5_hasClass 1 = .ok (.iload_n 1, 1) := by decide +kernel
theorem dX5_hasClass_2 : decode cX5_hasClass 2 = .ok (.invokevirtual 46, 3) := by decide +kernel
theorem dX5_hasClass_5 : decode cX5_hasClass 5 = .ok (.ifCond .eq 19, 3) := by decide +kernel
theorem dX5_hasClass_8 : decode cX5_hasClass 8 = .ok (.iload_n 2, 1) := by decide +kernel
theorem dX5_hasClass_9 : decode cX5_hasClass 9 = .ok (.ifCond .lt 13, 3) := by decide +kernel
theorem dX5_hasClass_12 : decode cX5_hasClass 12 = .ok (.iload_n 2, 1) := by decide +kernel
theorem dX5_hasClass_13 : decode cX5_hasClass 13 = .ok (.bipush 16, 2) := by decide +kernel
theorem dX5_hasClass_15 : decode cX5_hasClass 15 = .ok (.if_icmp .ge 7, 3) := by decide +kernel
theorem dX5_hasClass_18 : decode cX5_hasClass 18 = .ok (.iconst 1, 1) := by decide +kernel
theorem dX5_hasClass_19 : decode cX5_hasClass 19 = .ok (.goto 4, 3) := by decide +kernel
theorem dX5_hasClass_22 : decode cX5_hasClass 22 = .ok (.iconst 0, 1) := by decide +kernel
theorem dX5_hasClass_23 : decode cX5_hasClass 23 = .ok (.ireturn, 1) := by decide +kernel
theorem dX5_hasClass_24 : decode cX5_hasClass 24 = .ok (.aload_n 0, 1) := by decide +kernel
theorem dX5_hasClass_25 : decode cX5_hasClass 25 = .ok (.iload_n 1, 1) := by decide +kernel
theorem dX5_hasClass_26 : decode cX5_hasClass 26 = .ok (.invokevirtual 50, 3) := by decide +kernel
theorem dX5_hasClass_29 : decode cX5_hasClass 29 = .ok (.ifCond .eq 25, 3) := by decide +kernel
theorem dX5_hasClass_32 : decode cX5_hasClass 32 = .ok (.aload_n 0, 1) := by decide +kernel
theorem dX5_hasClass_33 : decode cX5_hasClass 33 = .ok (.iload_n 2, 1) := by decide +kernel
theorem dX5_hasClass_34 : decode cX5_hasClass 34 = .ok (.invokevirtual 50, 3) := by decide +kernel
theorem dX5_hasClass_37 : decode cX5_hasClass 37 = .ok (.ifCond .eq 17, 3) := by decide +kernel
theorem dX5_hasClass_40 : decode cX5_hasClass 40 = .ok (.aload_n 0, 1) := by decide +kernel
theorem dX5_hasClass_41 : decode cX5_hasClass 41 = .ok (.getfield 9, 3) := by decide +kernel
theorem dX5_hasClass_44 : decode cX5_hasClass 44 = .ok (.iload_n 2, 1) := by decide +kernel
theorem dX5_hasClass_45 : decode cX5_hasClass 45 = .ok (.iaload, 1) := by decide +kernel
theorem dX5_hasClass_46 : decode cX5_hasClass 46 = .ok (.iload_n 1, 1) := by decide +kernel
theorem dX5_hasClass_47 : decode cX5_hasClass 47 = .ok (.if_icmp .ne 7, 3) := by decide +kernel
theorem dX5_hasClass_50 : decode cX5_hasClass 50 = .ok (.iconst 1, 1) := by decide +kernel
theorem dX5_hasClass_51 : decode cX5_hasClass 51 = .ok (.goto 4, 3) := by decide +kernel
theorem dX5_hasClass_54 : decode cX5_hasClass 54 = .ok (.iconst 0, 1) := by decide +kernel
theorem dX5_hasClass_55 : decode cX5_hasClass 55 = .ok (.ireturn, 1) := by decide +kernel
theorem dX5_firstLeaf_0 : decode cX5_firstLeaf 0 = .ok (.iconst 0, 1) := by decide +kernel
theorem dX5_firstLeaf_1 : decode cX5_firstLeaf 1 = .ok (.istore_n 1, 1) := by decide +kernel
theorem dX5_firstLeaf_2 : decode cX5_firstLeaf 2 = .ok (.iload_n 1, 1) := by decide +kernel
theorem dX5_firstLeaf_3 : decode cX5_firstLeaf 3 = .ok (.aload_n 0, 1) := by decide +kernel
theorem dX5_firstLeaf_4 : decode cX5_firstLeaf 4 = .ok (.getfield 39, 3) := by decide +kernel
theorem dX5_firstLeaf_7 : decode cX5_firstLeaf 7 = .ok (.if_icmp .ge 17, 3) := by decide +kernel
theorem dX5_firstLeaf_10 : decode cX5_firstLeaf 10 = .ok (.aload_n 0, 1) := by decide +kernel
theorem dX5_firstLeaf_11 : decode cX5_firstLeaf 11 = .ok (.iload_n 1, 1) := by decide +kernel
theorem dX5_firstLeaf_12 : decode cX5_firstLeaf 12 = .ok (.invokevirtual 46, 3) := by decide +kernel
theorem dX5_firstLeaf_15 : decode cX5_firstLeaf 15 = .ok (.ifCond .ne 9, 3) := by decide +kernel
theorem dX5_firstLeaf_18 : decode cX5_firstLeaf 18 = .ok (.iinc 1 1, 3) := by decide +kernel
theorem dX5_firstLeaf_21 : decode cX5_firstLeaf 21 = .ok (.goto (-19), 3) := by decide +kernel
theorem dX5_firstLeaf_24 : decode cX5_firstLeaf 24 = .ok (.iload_n 1, 1) := by decide +kernel
theorem dX5_firstLeaf_25 : decode cX5_firstLeaf 25 = .ok (.ireturn, 1) := by decide +kernel
theorem dX5_addNode_0 : decode cX5_addNode 0 = .ok (.aload_n 0, 1) := by decide +kernel
theorem dX5_addNode_1 : decode cX5_addNode 1 = .ok (.getfield 39, 3) := by decide +kernel
theorem dX5_addNode_4 : decode cX5_addNode 4 = .ok (.istore_n 2, 1) := by decide +kernel
theorem dX5_addNode_5 : decode cX5_addNode 5 = .ok (.iload_n 2, 1) := by decide +kernel
theorem dX5_addNode_6 : decode cX5_addNode 6 = .ok (.ifCond .lt 9, 3) := by decide +kernel
theorem dX5_addNode_9 : decode cX5_addNode 9 = .ok (.iload_n 2, 1) := by decide +kernel
theorem dX5_addNode_10 : decode cX5_addNode 10 = .ok (.bipush 12, 2) := by decide +kernel
theorem dX5_addNode_12 : decode cX5_addNode 12 = .ok (.if_icmp .lt 4, 3) := by decide +kernel
theorem dX5_addNode_15 : decode cX5_addNode 15 = .ok (.return_, 1) := by decide +kernel
theorem dX5_addNode_16 : decode cX5_addNode 16 = .ok (.aload_n 0, 1) := by decide +kernel
theorem dX5_addNode_17 : decode cX5_addNode 17 = .ok (.getfield 9, 3) := by decide +kernel
theorem dX5_addNode_20 : decode cX5_addNode 20 = .ok (.iload_n 2, 1) := by decide +kernel
theorem dX5_addNode_21 : decode cX5_addNode 21 = .ok (.iload_n 1, 1) := by decide +kernel
theorem dX5_addNode_22 : decode cX5_addNode 22 = .ok (.iastore, 1) := by decide +kernel
theorem dX5_addNode_23 : decode cX5_addNode 23 = .ok (.aload_n 0, 1) := by decide +kernel
theorem dX5_addNode_24 : decode cX5_addNode 24 = .ok (.getfield 15, 3) := by decide +kernel
theorem dX5_addNode_27 : decode cX5_addNode 27 = .ok (.iload_n 2, 1) := by decide +kernel
theorem dX5_addNode_28 : decode cX5_addNode 28 = .ok (.iconst 0, 1) := by decide +kernel
theorem dX5_addNode_29 : decode cX5_addNode 29 = .ok (.iastore, 1) := by decide +kernel
theorem dX5_addNode_30 : decode cX5_addNode 30 = .ok (.aload_n 0, 1) := by decide +kernel
theorem dX5_addNode_31 : decode cX5_addNode 31 = .ok (.getfield 21, 3) := by decide +kernel
theorem dX5_addNode_34 : decode cX5_addNode 34 = .ok (.iload_n 2, 1) := by decide +kernel
theorem dX5_addNode_35 : decode cX5_addNode 35 = .ok (.iconst 0, 1) := by decide +kernel
theorem dX5_addNode_36 : decode cX5_addNode 36 = .ok (.iastore, 1) := by decide +kernel
theorem dX5_addNode_37 : decode cX5_addNode 37 = .ok (.aload_n 0, 1) := by decide +kernel
theorem dX5_addNode_38 : decode cX5_addNode 38 = .ok (.getfield 27, 3) := by decide +kernel
theorem dX5_addNode_41 : decode cX5_addNode 41 = .ok (.iload_n 2, 1) := by decide +kernel
theorem dX5_addNode_42 : decode cX5_addNode 42 = .ok (.aload_n 0, 1) := by decide +kernel
theorem dX5_addNode_43 : decode cX5_addNode 43 = .ok (.getfield 43, 3) := by decide +kernel
theorem dX5_addNode_46 : decode cX5_addNode 46 = .ok (.iastore, 1) := by decide +kernel
theorem dX5_addNode_47 : decode cX5_addNode 47 = .ok (.aload_n 0, 1) := by decide +kernel
theorem dX5_addNode_48 : decode cX5_addNode 48 = .ok (.iload_n 1, 1) := by decide +kernel
theorem dX5_addNode_49 : decode cX5_addNode 49 = .ok (.invokevirtual 50, 3) := by decide +kernel
theorem dX5_addNode_52 : decode cX5_addNode 52 = .ok (.ifCond .eq 13, 3) := by decide +kernel
theorem dX5_addNode_55 : decode cX5_addNode 55 = .ok (.aload_n 0, 1) := by decide +kernel
theorem dX5_addNode_56 : decode cX5_addNode 56 = .ok (.getfield 15, 3) := by decide +kernel
theorem dX5_addNode_59 : decode cX5_addNode 59 = .ok (.iload_n 1, 1) := by decide +kernel
theorem dX5_addNode_60 : decode cX5_addNode 60 = .ok (.dup2, 1) := by decide +kernel
theorem dX5_addNode_61 : decode cX5_addNode 61 = .ok (.iaload, 1) := by decide +kernel
theorem dX5_addNode_62 : decode cX5_addNode 62 = .ok (.iconst 1, 1) := by decide +kernel
theorem dX5_addNode_63 : decode cX5_addNode 63 = .ok (.iadd, 1) := by decide +kernel
theorem dX5_addNode_64 : decode cX5_addNode 64 = .ok (.iastore, 1) := by decide +kernel
theorem dX5_addNode_65 : decode cX5_addNode 65 = .ok (.aload_n 0, 1) := by decide +kernel
theorem dX5_addNode_66 : decode cX5_addNode 66 = .ok (.dup, 1) := by decide +kernel
theorem dX5_addNode_67 : decode cX5_addNode 67 = .ok (.getfield 39, 3) := by decide +kernel
theorem dX5_addNode_70 : decode cX5_addNode 70 = .ok (.iconst 1, 1) := by decide +kernel
theorem dX5_addNode_71 : decode cX5_addNode 71 = .ok (.iadd, 1) := by decide +kernel
theorem dX5_addNode_72 : decode cX5_addNode 72 = .ok (.putfield 39, 3) := by decide +kernel
theorem dX5_addNode_75 : decode cX5_addNode 75 = .ok (.return_, 1) := by decide +kernel
theorem dX5_emit_0 : decode cX5_emit 0 = .ok (.aload_n 0, 1) := by decide +kernel
theorem dX5_emit_1 : decode cX5_emit 1 = .ok (.getfield 43, 3) := by decide +kernel
theorem dX5_emit_4 : decode cX5_emit 4 = .ok (.ifCond .lt 35, 3) := by decide +kernel
theorem dX5_emit_7 : decode cX5_emit 7 = .ok (.aload_n 0, 1) := by decide +kernel
theorem dX5_emit_8 : decode cX5_emit 8 = .ok (.getfield 43, 3) := by decide +kernel
theorem dX5_emit_11 : decode cX5_emit 11 = .ok (.aload_n 0, 1) := by decide +kernel
theorem dX5_emit_12 : decode cX5_emit 12 = .ok (.getfield 36, 3) := by decide +kernel
theorem dX5_emit_15 : decode cX5_emit 15 = .ok (.arraylength, 1) := by decide +kernel
theorem dX5_emit_16 : decode cX5_emit 16 = .ok (.if_icmp .ge 23, 3) := by decide +kernel
theorem dX5_emit_19 : decode cX5_emit 19 = .ok (.aload_n 0, 1) := by decide +kernel
theorem dX5_emit_20 : decode cX5_emit 20 = .ok (.getfield 36, 3) := by decide +kernel
theorem dX5_emit_23 : decode cX5_emit 23 = .ok (.aload_n 0, 1) := by decide +kernel
theorem dX5_emit_24 : decode cX5_emit 24 = .ok (.getfield 43, 3) := by decide +kernel
theorem dX5_emit_27 : decode cX5_emit 27 = .ok (.iload_n 1, 1) := by decide +kernel
theorem dX5_emit_28 : decode cX5_emit 28 = .ok (.iastore, 1) := by decide +kernel
theorem dX5_emit_29 : decode cX5_emit 29 = .ok (.aload_n 0, 1) := by decide +kernel
theorem dX5_emit_30 : decode cX5_emit 30 = .ok (.dup, 1) := by decide +kernel
theorem dX5_emit_31 : decode cX5_emit 31 = .ok (.getfield 43, 3) := by decide +kernel
theorem dX5_emit_34 : decode cX5_emit 34 = .ok (.iconst 1, 1) := by decide +kernel
theorem dX5_emit_35 : decode cX5_emit 35 = .ok (.iadd, 1) := by decide +kernel
theorem dX5_emit_36 : decode cX5_emit 36 = .ok (.putfield 43, 3) := by decide +kernel
theorem dX5_emit_39 : decode cX5_emit 39 = .ok (.return_, 1) := by decide +kernel
theorem dX5_copyFrom_0 : decode cX5_copyFrom 0 = .ok (.aload_n 0, 1) := by decide +kernel
theorem dX5_copyFrom_1 : decode cX5_copyFrom 1 = .ok (.aload_n 1, 1) := by decide +kernel
theorem dX5_copyFrom_2 : decode cX5_copyFrom 2 = .ok (.getfield 39, 3) := by decide +kernel
theorem dX5_copyFrom_5 : decode cX5_copyFrom 5 = .ok (.putfield 39, 3) := by decide +kernel
theorem dX5_copyFrom_8 : decode cX5_copyFrom 8 = .ok (.aload_n 0, 1) := by decide +kernel
theorem dX5_copyFrom_9 : decode cX5_copyFrom 9 = .ok (.aload_n 1, 1) := by decide +kernel
theorem dX5_copyFrom_10 : decode cX5_copyFrom 10 = .ok (.getfield 43, 3) := by decide +kernel
theorem dX5_copyFrom_13 : decode cX5_copyFrom 13 = .ok (.putfield 43, 3) := by decide +kernel
theorem dX5_copyFrom_16 : decode cX5_copyFrom 16 = .ok (.aload_n 1, 1) := by decide +kernel
theorem dX5_copyFrom_17 : decode cX5_copyFrom 17 = .ok (.getfield 9, 3) := by decide +kernel
theorem dX5_copyFrom_20 : decode cX5_copyFrom 20 = .ok (.iconst 0, 1) := by decide +kernel
theorem dX5_copyFrom_21 : decode cX5_copyFrom 21 = .ok (.aload_n 0, 1) := by decide +kernel
theorem dX5_copyFrom_22 : decode cX5_copyFrom 22 = .ok (.getfield 9, 3) := by decide +kernel
theorem dX5_copyFrom_25 : decode cX5_copyFrom 25 = .ok (.iconst 0, 1) := by decide +kernel
theorem dX5_copyFrom_26 : decode cX5_copyFrom 26 = .ok (.bipush 12, 2) := by decide +kernel
theorem dX5_copyFrom_28 : decode cX5_copyFrom 28 = .ok (.invokestatic 53, 3) := by decide +kernel
theorem dX5_copyFrom_31 : decode cX5_copyFrom 31 = .ok (.aload_n 1, 1) := by decide +kernel
theorem dX5_copyFrom_32 : decode cX5_copyFrom 32 = .ok (.getfield 15, 3) := by decide +kernel
theorem dX5_copyFrom_35 : decode cX5_copyFrom 35 = .ok (.iconst 0, 1) := by decide +kernel
theorem dX5_copyFrom_36 : decode cX5_copyFrom 36 = .ok (.aload_n 0, 1) := by decide +kernel
theorem dX5_copyFrom_37 : decode cX5_copyFrom 37 = .ok (.getfield 15, 3) := by decide +kernel
theorem dX5_copyFrom_40 : decode cX5_copyFrom 40 = .ok (.iconst 0, 1) := by decide +kernel
theorem dX5_copyFrom_41 : decode cX5_copyFrom 41 = .ok (.bipush 12, 2) := by decide +kernel
theorem dX5_copyFrom_43 : decode cX5_copyFrom 43 = .ok (.invokestatic 53, 3) := by decide +kernel
theorem dX5_copyFrom_46 : decode cX5_copyFrom 46 = .ok (.aload_n 1, 1) := by decide +kernel
theorem dX5_copyFrom_47 : decode cX5_copyFrom 47 = .ok (.getfield 18, 3) := by decide +kernel
theorem dX5_copyFrom_50 : decode cX5_copyFrom 50 = .ok (.iconst 0, 1) := by decide +kernel
theorem dX5_copyFrom_51 : decode cX5_copyFrom 51 = .ok (.aload_n 0, 1) := by decide +kernel
theorem dX5_copyFrom_52 : decode cX5_copyFrom 52 = .ok (.getfield 18, 3) := by decide +kernel
theorem dX5_copyFrom_55 : decode cX5_copyFrom 55 = .ok (.iconst 0, 1) := by decide +kernel
theorem dX5_copyFrom_56 : decode cX5_copyFrom 56 = .ok (.bipush 12, 2) := by decide +kernel
theorem dX5_copyFrom_58 : decode cX5_copyFrom 58 = .ok (.invokestatic 53, 3) := by decide +kernel
theorem dX5_copyFrom_61 : decode cX5_copyFrom 61 = .ok (.aload_n 1, 1) := by decide +kernel
theorem dX5_copyFrom_62 : decode cX5_copyFrom 62 = .ok (.getfield 21, 3) := by decide +kernel
theorem dX5_copyFrom_65 : decode cX5_copyFrom 65 = .ok (.iconst 0, 1) := by decide +kernel
theorem dX5_copyFrom_66 : decode cX5_copyFrom 66 = .ok (.aload_n 0, 1) := by decide +kernel
theorem dX5_copyFrom_67 : decode cX5_copyFrom 67 = .ok (.getfield 21, 3) := by decide +kernel
theorem dX5_copyFrom_70 : decode cX5_copyFrom 70 = .ok (.iconst 0, 1) := by decide +kernel
theorem dX5_copyFrom_71 : decode cX5_copyFrom 71 = .ok (.bipush 12, 2) := by decide +kernel
theorem dX5_copyFrom_73 : decode cX5_copyFrom 73 = .ok (.invokestatic 53, 3) := by decide +kernel
theorem dX5_copyFrom_76 : decode cX5_copyFrom 76 = .ok (.aload_n 1, 1) := by decide +kernel
theorem dX5_copyFrom_77 : decode cX5_copyFrom 77 = .ok (.getfield 24, 3) := by decide +kernel
theorem dX5_copyFrom_80 : decode cX5_copyFrom 80 = .ok (.iconst 0, 1) := by decide +kernel
theorem dX5_copyFrom_81 : decode cX5_copyFrom 81 = .ok (.aload_n 0, 1) := by decide +kernel
theorem dX5_copyFrom_82 : decode cX5_copyFrom 82 = .ok (.getfield 24, 3) := by decide +kernel
theorem dX5_copyFrom_85 : decode cX5_copyFrom 85 = .ok (.iconst 0, 1) := by decide +kernel
theorem dX5_copyFrom_86 : decode cX5_copyFrom 86 = .ok (.bipush 12, 2) := by decide +kernel
theorem dX5_copyFrom_88 : decode cX5_copyFrom 88 = .ok (.invokestatic 53, 3) := by decide +kernel
theorem dX5_copyFrom_91 : decode cX5_copyFrom 91 = .ok (.aload_n 1, 1) := by decide +kernel
theorem dX5_copyFrom_92 : decode cX5_copyFrom 92 = .ok (.getfield 27, 3) := by decide +kernel
theorem dX5_copyFrom_95 : decode cX5_copyFrom 95 = .ok (.iconst 0, 1) := by decide +kernel
theorem dX5_copyFrom_96 : decode cX5_copyFrom 96 = .ok (.aload_n 0, 1) := by decide +kernel
theorem dX5_copyFrom_97 : decode cX5_copyFrom 97 = .ok (.getfield 27, 3) := by decide +kernel
theorem dX5_copyFrom_100 : decode cX5_copyFrom 100 = .ok (.iconst 0, 1) := by decide +kernel
theorem dX5_copyFrom_101 : decode cX5_copyFrom 101 = .ok (.bipush 12, 2) := by decide +kernel
theorem dX5_copyFrom_103 : decode cX5_copyFrom 103 = .ok (.invokestatic 53, 3) := by decide +kernel
theorem dX5_copyFrom_106 : decode cX5_copyFrom 106 = .ok (.aload_n 1, 1) := by decide +kernel
theorem dX5_copyFrom_107 : decode cX5_copyFrom 107 = .ok (.getfield 30, 3) := by decide +kernel
theorem dX5_copyFrom_110 : decode cX5_copyFrom 110 = .ok (.iconst 0, 1) := by decide +kernel
theorem dX5_copyFrom_111 : decode cX5_copyFrom 111 = .ok (.aload_n 0, 1) := by decide +kernel
theorem dX5_copyFrom_112 : decode cX5_copyFrom 112 = .ok (.getfield 30, 3) := by decide +kernel
theorem dX5_copyFrom_115 : decode cX5_copyFrom 115 = .ok (.iconst 0, 1) := by decide +kernel
theorem dX5_copyFrom_116 : decode cX5_copyFrom 116 = .ok (.bipush 12, 2) := by decide +kernel
theorem dX5_copyFrom_118 : decode cX5_copyFrom 118 = .ok (.invokestatic 53, 3) := by decide +kernel
theorem dX5_copyFrom_121 : decode cX5_copyFrom 121 = .ok (.aload_n 1, 1) := by decide +kernel
theorem dX5_copyFrom_122 : decode cX5_copyFrom 122 = .ok (.getfield 33, 3) := by decide +kernel
theorem dX5_copyFrom_125 : decode cX5_copyFrom 125 = .ok (.iconst 0, 1) := by decide +kernel
theorem dX5_copyFrom_126 : decode cX5_copyFrom 126 = .ok (.aload_n 0, 1) := by decide +kernel
theorem dX5_copyFrom_127 : decode cX5_copyFrom 127 = .ok (.getfield 33, 3) := by decide +kernel
theorem dX5_copyFrom_130 : decode cX5_copyFrom 130 = .ok (.iconst 0, 1) := by decide +kernel
theorem dX5_copyFrom_131 : decode cX5_copyFrom 131 = .ok (.bipush 12, 2) := by decide +kernel
theorem dX5_copyFrom_133 : decode cX5_copyFrom 133 = .ok (.invokestatic 53, 3) := by decide +kernel
theorem dX5_copyFrom_136 : decode cX5_copyFrom 136 = .ok (.aload_n 1, 1) := by decide +kernel
theorem dX5_copyFrom_137 : decode cX5_copyFrom 137 = .ok (.getfield 36, 3) := by decide +kernel
theorem dX5_copyFrom_140 : decode cX5_copyFrom 140 = .ok (.iconst 0, 1) := by decide +kernel
theorem dX5_copyFrom_141 : decode cX5_copyFrom 141 = .ok (.aload_n 0, 1) := by decide +kernel
theorem dX5_copyFrom_142 : decode cX5_copyFrom 142 = .ok (.getfield 36, 3) := by decide +kernel
theorem dX5_copyFrom_145 : decode cX5_copyFrom 145 = .ok (.iconst 0, 1) := by decide +kernel
theorem dX5_copyFrom_146 : decode cX5_copyFrom 146 = .ok (.bipush 120, 2) := by decide +kernel
theorem dX5_copyFrom_148 : decode cX5_copyFrom 148 = .ok (.invokestatic 53, 3) := by decide +kernel
theorem dX5_copyFrom_151 : decode cX5_copyFrom 151 = .ok (.return_, 1) := by decide +kernel
theorem dX6_init_0 : decode cX6_init 0 = .ok (.aload_n 0, 1) := by decide +kernel
theorem dX6_init_1 : decode cX6_init 1 = .ok (.invokespecial 3, 3) := by decide +kernel
theorem dX6_init_4 : decode cX6_init 4 = .ok (.aload_n 0, 1) := by decide +kernel
theorem dX6_init_5 : decode cX6_init 5 = .ok (.new 9, 3) := by decide +kernel
theorem dX6_init_8 : decode cX6_init 8 = .ok (.dup, 1) := by decide +kernel
theorem dX6_init_9 : decode cX6_init 9 = .ok (.invokespecial 11, 3) := by decide +kernel
theorem dX6_init_12 : decode cX6_init 12 = .ok (.putfield 12, 3) := by decide +kernel
theorem dX6_init_15 : decode cX6_init 15 = .ok (.aload_n 0, 1) := by decide +kernel
theorem dX6_init_16 : decode cX6_init 16 = .ok (.bipush 120, 2) := by decide +kernel
theorem dX6_init_18 : decode cX6_init 18 = .ok (.newarray .char, 2) := by decide +kernel
theorem dX6_init_20 : decode cX6_init 20 = .ok (.putfield 18, 3) := by decide +kernel
theorem dX6_init_23 : decode cX6_init 23 = .ok (.aload_n 0, 1) := by decide +kernel
theorem dX6_init_24 : decode cX6_init 24 = .ok (.bipush 120, 2) := by decide +kernel
theorem dX6_init_26 : decode cX6_init 26 = .ok (.newarray .char, 2) := by decide +kernel
theorem dX6_init_28 : decode cX6_init 28 = .ok (.putfield 22, 3) := by decide +kernel
theorem dX6_init_31 : decode cX6_init 31 = .ok (.return_, 1) := by decide +kernel
theorem dX6_takeText_0 : decode cX6_takeText 0 = .ok (.aload_n 0, 1) := by decide +kernel
theorem dX6_takeText_1 : decode cX6_takeText 1 = .ok (.iconst 0, 1) := by decide +kernel
theorem dX6_takeText_2 : decode cX6_takeText 2 = .ok (.putfield 25, 3) := by decide +kernel
theorem dX6_takeText_5 : decode cX6_takeText 5 = .ok (.iconst 0, 1) := by decide +kernel
theorem dX6_takeText_6 : decode cX6_takeText 6 = .ok (.istore_n 3, 1) := by decide +kernel
theorem dX6_takeText_7 : decode cX6_takeText 7 = .ok (.iload_n 3, 1) := by decide +kernel
theorem dX6_takeText_8 : decode cX6_takeText 8 = .ok (.iload_n 2, 1) := by decide +kernel
theorem dX6_takeText_9 : decode cX6_takeText 9 = .ok (.if_icmp .ge 43, 3) := by decide +kernel
theorem dX6_takeText_12 : decode cX6_takeText 12 = .ok (.iload_n 3, 1) := by decide +kernel
theorem dX6_takeText_13 : decode cX6_takeText 13 = .ok (.aload_n 1, 1) := by decide +kernel
theorem dX6_takeText_14 : decode cX6_takeText 14 = .ok (.arraylength, 1) := by decide +kernel
theorem dX6_takeText_15 : decode cX6_takeText 15 = .ok (.if_icmp .ge 37, 3) := by decide +kernel
theorem dX6_takeText_18 : decode cX6_takeText 18 = .ok (.iload_n 3, 1) := by decide +kernel
theorem dX6_takeText_19 : decode cX6_takeText 19 = .ok (.aload_n 0, 1) := by decide +kernel
theorem dX6_takeText_20 : decode cX6_takeText 20 = .ok (.getfield 18, 3) := by decide +kernel
theorem dX6_takeText_23 : decode cX6_takeText 23 = .ok (.arraylength, 1) := by decide +kernel
theorem dX6_takeText_24 : decode cX6_takeText 24 = .ok (.if_icmp .ge 28, 3) := by decide +kernel
theorem dX6_takeText_27 : decode cX6_takeText 27 = .ok (.aload_n 0, 1) := by decide +kernel
theorem dX6_takeText_28 : decode cX6_takeText 28 = .ok (.getfield 18, 3) := by decide +kernel
theorem dX6_takeText_31 : decode cX6_takeText 31 = .ok (.iload_n 3, 1) := by decide +kernel
theorem dX6_takeText_32 : decode cX6_takeText 32 = .ok (.aload_n 1, 1) := by decide +kernel
theorem dX6_takeText_33 : decode cX6_takeText 33 = .ok (.iload_n 3, 1) := by decide +kernel
theorem dX6_takeText_34 : decode cX6_takeText 34 = .ok (.caload, 1) := by decide +kernel
theorem dX6_takeText_35 : decode cX6_takeText 35 = .ok (.castore, 1) := by decide +kernel
theorem dX6_takeText_36 : decode cX6_takeText 36 = .ok (.aload_n 0, 1) := by decide +kernel
theorem dX6_takeText_37 : decode cX6_takeText 37 = .ok (.dup, 1) := by decide +kernel
theorem dX6_takeText_38 : decode cX6_takeText 38 = .ok (.getfield 25, 3) := by decide +kernel
theorem dX6_takeText_41 : decode cX6_takeText 41 = .ok (.iconst 1, 1) := by decide +kernel
theorem dX6_takeText_42 : decode cX6_takeText 42 = .ok (.iadd, 1) := by decide +kernel
theorem dX6_takeText_43 : decode cX6_takeText 43 = .ok (.putfield 25, 3) := by decide +kernel
theorem dX6_takeText_46 : decode cX6_takeText 46 = .ok (.iinc 3 1, 3) := by decide +kernel
theorem dX6_takeText_49 : decode cX6_takeText 49 = .ok (.goto (-42), 3) := by decide +kernel
theorem dX6_takeText_52 : decode cX6_takeText 52 = .ok (.return_, 1) := by decide +kernel
theorem dX6_takeTemplate_0 : decode cX6_takeTemplate 0 = .ok (.aload_n 0, 1) := by decide +kernel
theorem dX6_takeTemplate_1 : decode cX6_takeTemplate 1 = .ok (.iconst 0, 1) := by decide +kernel
theorem dX6_takeTemplate_2 : decode cX6_takeTemplate 2 = .ok (.putfield 25, 3) := by decide +kernel
theorem dX6_takeTemplate_5 : decode cX6_takeTemplate 5 = .ok (.iconst 0, 1) := by decide +kernel
theorem dX6_takeTemplate_6 : decode cX6_takeTemplate 6 = .ok (.istore_n 2, 1) := by decide +kernel
theorem dX6_takeTemplate_7 : decode cX6_takeTemplate 7 = .ok (.iload_n 2, 1) := by decide +kernel
theorem dX6_takeTemplate_8 : decode cX6_takeTemplate 8 = .ok (.aload_n 1, 1) := by decide +kernel
theorem dX6_takeTemplate_9 : decode cX6_takeTemplate 9 = .ok (.invokevirtual 29, 3) := by decide +kernel
theorem dX6_takeTemplate_12 : decode cX6_takeTemplate 12 = .ok (.if_icmp .ge 39, 3) := by decide +kernel
theorem dX6_takeTemplate_15 : decode cX6_takeTemplate 15 = .ok (.iload_n 2, 1) := by decide +kernel
theorem dX6_takeTemplate_16 : decode cX6_takeTemplate 16 = .ok (.aload_n 0, 1) := by decide +kernel
theorem dX6_takeTemplate_17 : decode cX6_takeTemplate 17 = .ok (.getfield 18, 3) := by decide +kernel
theorem dX6_takeTemplate_20 : decode cX6_takeTemplate 20 = .ok (.arraylength, 1) := by decide +kernel
theorem dX6_takeTemplate_21 : decode cX6_takeTemplate 21 = .ok (.if_icmp .ge 30, 3) := by decide +kernel
theorem dX6_takeTemplate_24 : decode cX6_takeTemplate 24 = .ok (.aload_n 0, 1) := by decide +kernel
theorem dX6_takeTemplate_25 : decode cX6_takeTemplate 25 = .ok (.getfield 18, 3) := by decide +kernel
theorem dX6_takeTemplate_28 : decode cX6_takeTemplate 28 = .ok (.iload_n 2, 1) := by decide +kernel
theorem dX6_takeTemplate_29 : decode cX6_takeTemplate 29 = .ok (.aload_n 1, 1) := by decide +kernel
theorem dX6_takeTemplate_30 : decode cX6_takeTemplate 30 = .ok (.iload_n 2, 1) := by decide +kernel
theorem dX6_takeTemplate_31 : decode cX6_takeTemplate 31 = .ok (.invokevirtual 34, 3) := by decide +kernel
theorem dX6_takeTemplate_34 : decode cX6_takeTemplate 34 = .ok (.castore, 1) := by decide +kernel
theorem dX6_takeTemplate_35 : decode cX6_takeTemplate 35 = .ok (.aload_n 0, 1) := by decide +kernel
theorem dX6_takeTemplate_36 : decode cX6_takeTemplate 36 = .ok (.dup, 1) := by decide +kernel
theorem dX6_takeTemplate_37 : decode cX6_takeTemplate 37 = .ok (.getfield 25, 3) := by decide +kernel
theorem dX6_takeTemplate_40 : decode cX6_takeTemplate 40 = .ok (.iconst 1, 1) := by decide +kernel
theorem dX6_takeTemplate_41 : decode cX6_takeTemplate 41 = .ok (.iadd, 1) := by decide +kernel
theorem dX6_takeTemplate_42 : decode cX6_takeTemplate 42 = .ok (.putfield 25, 3) := by decide +kernel
theorem dX6_takeTemplate_45 : decode cX6_takeTemplate 45 = .ok (.iinc 2 1, 3) := by decide +kernel
theorem dX6_takeTemplate_48 : decode cX6_takeTemplate 48 = .ok (.goto (-41), 3) := by decide +kernel
theorem dX6_takeTemplate_51 : decode cX6_takeTemplate 51 = .ok (.return_, 1) := by decide +kernel
theorem dX6_errorAt_0 : decode cX6_errorAt 0 = .ok (.iload_n 1, 1) := by decide +kernel
theorem dX6_errorAt_1 : decode cX6_errorAt 1 = .ok (.ifCond .ne 10, 3) := by decide +kernel
theorem dX6_errorAt_4 : decode cX6_errorAt 4 = .ok (.aload_n 0, 1) := by decide +kernel
theorem dX6_errorAt_5 : decode cX6_errorAt 5 = .ok (.getfield 38, 3) := by decide +kernel
theorem dX6_errorAt_8 : decode cX6_errorAt 8 = .ok (.goto 19, 3) := by decide +kernel
theorem dX6_errorAt_11 : decode cX6_errorAt 11 = .ok (.iload_n 1, 1) := by decide +kernel
theorem dX6_errorAt_12 : decode cX6_errorAt 12 = .ok (.iconst 1, 1) := by decide +kernel
theorem dX6_errorAt_13 : decode cX6_errorAt 13 = .ok (.if_icmp .ne 10, 3) := by decide +kernel
theorem dX6_errorAt_16 : decode cX6_errorAt 16 = .ok (.aload_n 0, 1) := by decide +kernel
theorem dX6_errorAt_17 : decode cX6_errorAt 17 = .ok (.getfield 41, 3) := by decide +kernel
theorem dX6_errorAt_20 : decode cX6_errorAt 20 = .ok (.goto 7, 3) := by decide +kernel
theorem dX6_errorAt_23 : decode cX6_errorAt 23 = .ok (.aload_n 0, 1) := by decide +kernel
theorem dX6_errorAt_24 : decode cX6_errorAt 24 = .ok (.getfield 44, 3) := by decide +kernel
theorem dX6_errorAt_27 : decode cX6_errorAt 27 = .ok (.ireturn, 1) := by decide +kernel
theorem dX6_lastError_0 : decode cX6_lastError 0 = .ok (.aload_n 0, 1) := by decide +kernel
theorem dX6_lastError_1 : decode cX6_lastError 1 = .ok (.getfield 44, 3) := by decide +kernel
theorem dX6_lastError_4 : decode cX6_lastError 4 = .ok (.ifCond .lt 10, 3) := by decide +kernel
theorem dX6_lastError_7 : decode cX6_lastError 7 = .ok (.aload_n 0, 1) := by decide +kernel
theorem dX6_lastError_8 : decode cX6_lastError 8 = .ok (.getfield 44, 3) := by decide +kernel
theorem dX6_lastError_11 : decode cX6_lastError 11 = .ok (.goto 7, 3) := by decide +kernel
theorem dX6_lastError_14 : decode cX6_lastError 14 = .ok (.aload_n 0, 1) := by decide +kernel
theorem dX6_lastError_15 : decode cX6_lastError 15 = .ok (.getfield 41, 3) := by decide +kernel
theorem dX6_lastError_18 : decode cX6_lastError 18 = .ok (.ireturn, 1) := by decide +kernel
theorem dX6_readTree_0 : decode cX6_readTree 0 = .ok (.aload_n 0, 1) := by decide +kernel
theorem dX6_readTree_1 : decode cX6_readTree 1 = .ok (.getfield 12, 3) := by decide +kernel
theorem dX6_readTree_4 : decode cX6_readTree 4 = .ok (.invokevirtual 47, 3) := by decide +kernel
theorem dX6_readTree_7 : decode cX6_readTree 7 = .ok (.aload_n 0, 1) := by decide +kernel
theorem dX6_readTree_8 : decode cX6_readTree 8 = .ok (.iconst 0, 1) := by decide +kernel
theorem dX6_readTree_9 : decode cX6_readTree 9 = .ok (.putfield 50, 3) := by decide +kernel
theorem dX6_readTree_12 : decode cX6_readTree 12 = .ok (.iconst 0, 1) := by decide +kernel
theorem dX6_readTree_13 : decode cX6_readTree 13 = .ok (.istore_n 1, 1) := by decide +kernel
theorem dX6_readTree_14 : decode cX6_readTree 14 = .ok (.iload_n 1, 1) := by decide +kernel
theorem dX6_readTree_15 : decode cX6_readTree 15 = .ok (.bipush 12, 2) := by decide +kernel
theorem dX6_readTree_17 : decode cX6_readTree 17 = .ok (.if_icmp .gt 72, 3) := by decide +kernel
theorem dX6_readTree_20 : decode cX6_readTree 20 = .ok (.aload_n 0, 1) := by decide +kernel
theorem dX6_readTree_21 : decode cX6_readTree 21 = .ok (.iload_n 1, 1) := by decide +kernel
theorem dX6_readTree_22 : decode cX6_readTree 22 = .ok (.invokevirtual 53, 3) := by decide +kernel
theorem dX6_readTree_25 : decode cX6_readTree 25 = .ok (.ifCond .eq 31, 3) := by decide +kernel
theorem dX6_readTree_28 : decode cX6_readTree 28 = .ok (.aload_n 0, 1) := by decide +kernel
theorem dX6_readTree_29 : decode cX6_readTree 29 = .ok (.iload_n 1, 1) := by decide +kernel
theorem dX6_readTree_30 : decode cX6_readTree 30 = .ok (.invokevirtual 57, 3) := by decide +kernel
theorem dX6_readTree_33 : decode cX6_readTree 33 = .ok (.ifCond .eq 23, 3) := by decide +kernel
theorem dX6_readTree_36 : decode cX6_readTree 36 = .ok (.aload_n 0, 1) := by decide +kernel
theorem dX6_readTree_37 : decode cX6_readTree 37 = .ok (.iload_n 1, 1) := by decide +kernel
theorem dX6_readTree_38 : decode cX6_readTree 38 = .ok (.invokevirtual 60, 3) := by decide +kernel
theorem dX6_readTree_41 : decode cX6_readTree 41 = .ok (.ifCond .eq 15, 3) := by decide +kernel
theorem dX6_readTree_44 : decode cX6_readTree 44 = .ok (.aload_n 0, 1) := by decide +kernel
theorem dX6_readTree_45 : decode cX6_readTree 45 = .ok (.iload_n 1, 1) := by decide +kernel
theorem dX6_readTree_46 : decode cX6_readTree 46 = .ok (.invokevirtual 63, 3) := by decide +kernel
theorem dX6_readTree_49 : decode cX6_readTree 49 = .ok (.ifCond .eq 7, 3) := by decide +kernel
theorem dX6_readTree_52 : decode cX6_readTree 52 = .ok (.iconst 1, 1) := by decide +kernel
theorem dX6_readTree_53 : decode cX6_readTree 53 = .ok (.goto 4, 3) := by decide +kernel
theorem dX6_readTree_56 : decode cX6_readTree 56 = .ok (.iconst 0, 1) := by decide +kernel
theorem dX6_readTree_57 : decode cX6_readTree 57 = .ok (.istore_n 2, 1) := by decide +kernel
theorem dX6_readTree_58 : decode cX6_readTree 58 = .ok (.iload_n 2, 1) := by decide +kernel
theorem dX6_readTree_59 : decode cX6_readTree 59 = .ok (.ifCond .ne 5, 3) := by decide +kernel
theorem dX6_readTree_62 : decode cX6_readTree 62 = .ok (.iconst 0, 1) := by decide +kernel
theorem dX6_readTree_63 : decode cX6_readTree 63 = .ok (.ireturn, 1) := by decide +kernel
theorem dX6_readTree_64 : decode cX6_readTree 64 = .ok (.aload_n 0, 1) := by decide +kernel
theorem dX6_readTree_65 : decode cX6_readTree 65 = .ok (.invokevirtual 66, 3) := by decide +kernel
theorem dX6_readTree_68 : decode cX6_readTree 68 = .ok (.ifCond .ne 5, 3) := by decide +kernel
theorem dX6_readTree_71 : decode cX6_readTree 71 = .ok (.iconst 1, 1) := by decide +kernel
theorem dX6_readTree_72 : decode cX6_readTree 72 = .ok (.ireturn, 1) := by decide +kernel
theorem dX6_readTree_73 : decode cX6_readTree 73 = .ok (.aload_n 0, 1) := by decide +kernel
theorem dX6_readTree_74 : decode cX6_readTree 74 = .ok (.dup, 1) := by decide +kernel
theorem dX6_readTree_75 : decode cX6_readTree 75 = .ok (.getfield 50, 3) := by decide +kernel
theorem dX6_readTree_78 : decode cX6_readTree 78 = .ok (.iconst 1, 1) := by decide +kernel
theorem dX6_readTree_79 : decode cX6_readTree 79 = .ok (.iadd, 1) := by decide +kernel
theorem dX6_readTree_80 : decode cX6_readTree 80 = .ok (.putfield 50, 3) := by decide +kernel
theorem dX6_readTree_83 : decode cX6_readTree 83 = .ok (.iinc 1 1, 3) := by decide +kernel
theorem dX6_readTree_86 : decode cX6_readTree 86 = .ok (.goto (-72), 3) := by decide +kernel
theorem dX6_readTree_89 : decode cX6_readTree 89 = .ok (.iconst 0, 1) := by decide +kernel
theorem dX6_readTree_90 : decode cX6_readTree 90 = .ok (.ireturn, 1) := by decide +kernel
theorem dX6_readStart_0 : decode cX6_readStart 0 = .ok (.aload_n 0, 1) := by decide +kernel
theorem dX6_readStart_1 : decode cX6_readStart 1 = .ok (.aload_n 0, 1) := by decide +kernel
theorem dX6_readStart_2 : decode cX6_readStart 2 = .ok (.getfield 50, 3) := by decide +kernel
theorem dX6_readStart_5 : decode cX6_readStart 5 = .ok (.putfield 38, 3) := by decide +kernel
theorem dX6_readStart_8 : decode cX6_readStart 8 = .ok (.aload_n 0, 1) := by decide +kernel
theorem dX6_readStart_9 : decode cX6_readStart 9 = .ok (.aload_n 0, 1) := by decide +kernel
theorem dX6_readStart_10 : decode cX6_readStart 10 = .ok (.getfield 50, 3) := by decide +kernel
theorem dX6_readStart_13 : decode cX6_readStart 13 = .ok (.putfield 41, 3) := by decide +kernel
theorem dX6_readStart_16 : decode cX6_readStart 16 = .ok (.aload_n 0, 1) := by decide +kernel
theorem dX6_readStart_17 : decode cX6_readStart 17 = .ok (.iconst (-1), 1) := by decide +kernel
theorem dX6_readStart_18 : decode cX6_readStart 18 = .ok (.putfield 44, 3) := by decide +kernel
theorem dX6_readStart_21 : decode cX6_readStart 21 = .ok (.iload_n 1, 1) := by decide +kernel
theorem dX6_readStart_22 : decode cX6_readStart 22 = .ok (.bipush 12, 2) := by decide +kernel
theorem dX6_readStart_24 : decode cX6_readStart 24 = .ok (.if_icmp .lt 5, 3) := by decide +kernel
theorem dX6_readStart_27 : decode cX6_readStart 27 = .ok (.iconst 0, 1) := by decide +kernel
theorem dX6_readStart_28 : decode cX6_readStart 28 = .ok (.ireturn, 1) := by decide +kernel
theorem dX6_readStart_29 : decode cX6_readStart 29 = .ok (.iload_n 1, 1) := by decide +kernel
theorem dX6_readStart_30 : decode cX6_readStart 30 = .ok (.ifCond .ne 13, 3) := by decide +kernel
theorem dX6_readStart_33 : decode cX6_readStart 33 = .ok (.aload_n 0, 1) := by decide +kernel
theorem dX6_readStart_34 : decode cX6_readStart 34 = .ok (.getfield 12, 3) := by decide +kernel
theorem dX6_readStart_37 : decode cX6_readStart 37 = .ok (.iconst (-1), 1) := by decide +kernel
theorem dX6_readStart_38 : decode cX6_readStart 38 = .ok (.invokevirtual 70, 3) := by decide +kernel
theorem dX6_readStart_41 : decode cX6_readStart 41 = .ok (.iconst 1, 1) := by decide +kernel
theorem dX6_readStart_42 : decode cX6_readStart 42 = .ok (.ireturn, 1) := by decide +kernel
theorem dX6_readStart_43 : decode cX6_readStart 43 = .ok (.aload_n 0, 1) := by decide +kernel
theorem dX6_readStart_44 : decode cX6_readStart 44 = .ok (.iconst 2, 1) := by decide +kernel
theorem dX6_readStart_45 : decode cX6_readStart 45 = .ok (.invokevirtual 74, 3) := by decide +kernel
theorem dX6_readStart_48 : decode cX6_readStart 48 = .ok (.istore_n 2, 1) := by decide +kernel
theorem dX6_readStart_49 : decode cX6_readStart 49 = .ok (.iload_n 2, 1) := by decide +kernel
theorem dX6_readStart_50 : decode cX6_readStart 50 = .ok (.ifCond .lt 17, 3) := by decide +kernel
theorem dX6_readStart_53 : decode cX6_readStart 53 = .ok (.iload_n 2, 1) := by decide +kernel
theorem dX6_readStart_54 : decode cX6_readStart 54 = .ok (.iload_n 1, 1) := by decide +kernel
theorem dX6_readStart_55 : decode cX6_readStart 55 = .ok (.if_icmp .ge 12, 3) := by decide +kernel
theorem dX6_readStart_58 : decode cX6_readStart 58 = .ok (.aload_n 0, 1) := by decide +kernel
theorem dX6_readStart_59 : decode cX6_readStart 59 = .ok (.invokevirtual 66, 3) := by decide +kernel
theorem dX6_readStart_62 : decode cX6_readStart 62 = .ok (.bipush 60, 2) := by decide +kernel
theorem dX6_readStart_64 : decode cX6_readStart 64 = .ok (.if_icmp .eq 5, 3) := by decide +kernel
theorem dX6_readStart_67 : decode cX6_readStart 67 = .ok (.iconst 0, 1) := by decide +kernel
theorem dX6_readStart_68 : decode cX6_readStart 68 = .ok (.ireturn, 1) := by decide +kernel
theorem dX6_readStart_69 : decode cX6_readStart 69 = .ok (.aload_n 0, 1) := by decide +kernel
theorem dX6_readStart_70 : decode cX6_readStart 70 = .ok (.dup, 1) := by decide +kernel
theorem dX6_readStart_71 : decode cX6_readStart 71 = .ok (.getfield 50, 3) := by decide +kernel
theorem dX6_readStart_74 : decode cX6_readStart 74 = .ok (.iconst 1, 1) := by decide +kernel
theorem dX6_readStart_75 : decode cX6_readStart 75 = .ok (.iadd, 1) := by decide +kernel
theorem dX6_readStart_76 : decode cX6_readStart 76 = .ok (.putfield 50, 3) := by decide +kernel
theorem dX6_readStart_79 : decode cX6_readStart 79 = .ok (.aload_n 0, 1) := by decide +kernel
theorem dX6_readStart_80 : decode cX6_readStart 80 = .ok (.getfield 12, 3) := by decide +kernel
theorem dX6_readStart_83 : decode cX6_readStart 83 = .ok (.iload_n 2, 1) := by decide +kernel
theorem dX6_readStart_84 : decode cX6_readStart 84 = .ok (.invokevirtual 70, 3) := by decide +kernel
theorem dX6_readStart_87 : decode cX6_readStart 87 = .ok (.iconst 1, 1) := by decide +kernel
theorem dX6_readStart_88 : decode cX6_readStart 88 = .ok (.ireturn, 1) := by decide +kernel
theorem dX6_readProgram_0 : decode cX6_readProgram 0 = .ok (.aload_n 0, 1) := by decide +kernel
theorem dX6_readProgram_1 : decode cX6_readProgram 1 = .ok (.aload_n 0, 1) := by decide +kernel
theorem dX6_readProgram_2 : decode cX6_readProgram 2 = .ok (.getfield 50, 3) := by decide +kernel
theorem dX6_readProgram_5 : decode cX6_readProgram 5 = .ok (.putfield 41, 3) := by decide +kernel
theorem dX6_readProgram_8 : decode cX6_readProgram 8 = .ok (.aload_n 0, 1) := by decide +kernel
theorem dX6_readProgram_9 : decode cX6_readProgram 9 = .ok (.iconst 0, 1) := by decide +kernel
theorem dX6_readProgram_10 : decode cX6_readProgram 10 = .ok (.invokevirtual 78, 3) := by decide +kernel
theorem dX6_readProgram_13 : decode cX6_readProgram 13 = .ok (.ifCond .ne 13, 3) := by decide +kernel
theorem dX6_readProgram_16 : decode cX6_readProgram 16 = .ok (.aload_n 0, 1) := by decide +kernel
theorem dX6_readProgram_17 : decode cX6_readProgram 17 = .ok (.aload_n 0, 1) := by decide +kernel
theorem dX6_readProgram_18 : decode cX6_readProgram 18 = .ok (.getfield 50, 3) := by decide +kernel
theorem dX6_readProgram_21 : decode cX6_readProgram 21 = .ok (.putfield 44, 3) := by decide +kernel
theorem dX6_readProgram_24 : decode cX6_readProgram 24 = .ok (.iconst 0, 1) := by decide +kernel
theorem dX6_readProgram_25 : decode cX6_readProgram 25 = .ok (.ireturn, 1) := by decide +kernel
theorem dX6_readProgram_26 : decode cX6_readProgram 26 = .ok (.aload_n 0, 1) := by decide +kernel
theorem dX6_readProgram_27 : decode cX6_readProgram 27 = .ok (.getfield 12, 3) := by decide +kernel
theorem dX6_readProgram_30 : decode cX6_readProgram 30 = .ok (.getfield 82, 3) := by decide +kernel
theorem dX6_readProgram_33 : decode cX6_readProgram 33 = .ok (.iload_n 1, 1) := by decide +kernel
theorem dX6_readProgram_34 : decode cX6_readProgram 34 = .ok (.aload_n 0, 1) := by decide +kernel
theorem dX6_readProgram_35 : decode cX6_readProgram 35 = .ok (.getfield 12, 3) := by decide +kernel
theorem dX6_readProgram_38 : decode cX6_readProgram 38 = .ok (.getfield 86, 3) := by decide +kernel
theorem dX6_readProgram_41 : decode cX6_readProgram 41 = .ok (.iastore, 1) := by decide +kernel
theorem dX6_readProgram_42 : decode cX6_readProgram 42 = .ok (.aload_n 0, 1) := by decide +kernel
theorem dX6_readProgram_43 : decode cX6_readProgram 43 = .ok (.invokevirtual 66, 3) := by decide +kernel
theorem dX6_readProgram_46 : decode cX6_readProgram 46 = .ok (.bipush 58, 2) := by decide +kernel
theorem dX6_readProgram_48 : decode cX6_readProgram 48 = .ok (.if_icmp .ne 31, 3) := by decide +kernel
theorem dX6_readProgram_51 : decode cX6_readProgram 51 = .ok (.aload_n 0, 1) := by decide +kernel
theorem dX6_readProgram_52 : decode cX6_readProgram 52 = .ok (.dup, 1) := by decide +kernel
theorem dX6_readProgram_53 : decode cX6_readProgram 53 = .ok (.getfield 50, 3) := by decide +kernel
theorem dX6_readProgram_56 : decode cX6_readProgram 56 = .ok (.iconst 1, 1) := by decide +kernel
theorem dX6_readProgram_57 : decode cX6_readProgram 57 = .ok (.iadd, 1) := by decide +kernel
theorem dX6_readProgram_58 : decode cX6_readProgram 58 = .ok (.putfield 50, 3) := by decide +kernel
theorem dX6_readProgram_61 : decode cX6_readProgram 61 = .ok (.aload_n 0, 1) := by decide +kernel
theorem dX6_readProgram_62 : decode cX6_readProgram 62 = .ok (.iconst 1, 1) := by decide +kernel
theorem dX6_readProgram_63 : decode cX6_readProgram 63 = .ok (.invokevirtual 78, 3) := by decide +kernel
theorem dX6_readProgram_66 : decode cX6_readProgram 66 = .ok (.ifCond .ne 13, 3) := by decide +kernel
theorem dX6_readProgram_69 : decode cX6_readProgram 69 = .ok (.aload_n 0, 1) := by decide +kernel
theorem dX6_readProgram_70 : decode cX6_readProgram 70 = .ok (.aload_n 0, 1) := by decide +kernel
theorem dX6_readProgram_71 : decode cX6_readProgram 71 = .ok (.getfield 50, 3) := by decide +kernel
theorem dX6_readProgram_74 : decode cX6_readProgram 74 = .ok (.putfield 44, 3) := by decide +kernel
