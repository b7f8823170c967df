theorem dX6_readProgram_77 : decode cX6_readProgram 77 = .ok (.iconst 0, 1) := by decide +kernel
theorem dX6_readProgram_78 : decode cX6_readProgram 78 = .ok (.ireturn, 1) := by decide +kernel
theorem dX6_readProgram_79 : decode cX6_readProgram 79 = .ok (.aload_n 0, 1) := by decide +kernel
theorem dX6_readProgram_80 : decode cX6_readProgram 80 = .ok (.getfield 12, 3) := by decide +kernel
theorem dX6_readProgram_83 : decode cX6_readProgram 83 = .ok (.getfield 89, 3) := by decide +kernel
theorem dX6_readProgram_86 : decode cX6_readProgram 86 = .ok (.iload_n 1, 1) := by decide +kernel
theorem dX6_readProgram_87 : decode cX6_readProgram 87 = .ok (.aload_n 0, 1) := by decide +kernel
theorem dX6_readProgram_88 : decode cX6_readProgram 88 = .ok (.getfield 12, 3) := by decide +kernel
theorem dX6_readProgram_91 : decode cX6_readProgram 91 = .ok (.getfield 86, 3) := by decide +kernel
theorem dX6_readProgram_94 : decode cX6_readProgram 94 = .ok (.iastore, 1) := by decide +kernel
theorem dX6_readProgram_95 : decode cX6_readProgram 95 = .ok (.iconst 1, 1) := by decide +kernel
theorem dX6_readProgram_96 : decode cX6_readProgram 96 = .ok (.ireturn, 1) := by decide +kernel
theorem dX6_readShaper_0 : decode cX6_readShaper 0 = .ok (.iload_n 1, 1) := by decide +kernel
theorem dX6_readShaper_1 : decode cX6_readShaper 1 = .ok (.ifCond .eq 12, 3) := by decide +kernel
theorem dX6_readShaper_4 : decode cX6_readShaper 4 = .ok (.aload_n 0, 1) := by decide +kernel
theorem dX6_readShaper_5 : decode cX6_readShaper 5 = .ok (.invokevirtual 66, 3) := by decide +kernel
theorem dX6_readShaper_8 : decode cX6_readShaper 8 = .ok (.bipush 64, 2) := by decide +kernel
theorem dX6_readShaper_10 : decode cX6_readShaper 10 = .ok (.if_icmp .eq 5, 3) := by decide +kernel
theorem dX6_readShaper_13 : decode cX6_readShaper 13 = .ok (.iconst 1, 1) := by decide +kernel
theorem dX6_readShaper_14 : decode cX6_readShaper 14 = .ok (.ireturn, 1) := by decide +kernel
theorem dX6_readShaper_15 : decode cX6_readShaper 15 = .ok (.aload_n 0, 1) := by decide +kernel
theorem dX6_readShaper_16 : decode cX6_readShaper 16 = .ok (.aload_n 0, 1) := by decide +kernel
theorem dX6_readShaper_17 : decode cX6_readShaper 17 = .ok (.getfield 50, 3) := by decide +kernel
theorem dX6_readShaper_20 : decode cX6_readShaper 20 = .ok (.putfield 41, 3) := by decide +kernel
theorem dX6_readShaper_23 : decode cX6_readShaper 23 = .ok (.aload_n 0, 1) := by decide +kernel
theorem dX6_readShaper_24 : decode cX6_readShaper 24 = .ok (.dup, 1) := by decide +kernel
theorem dX6_readShaper_25 : decode cX6_readShaper 25 = .ok (.getfield 50, 3) := by decide +kernel
theorem dX6_readShaper_28 : decode cX6_readShaper 28 = .ok (.iconst 1, 1) := by decide +kernel
theorem dX6_readShaper_29 : decode cX6_readShaper 29 = .ok (.iadd, 1) := by decide +kernel
theorem dX6_readShaper_30 : decode cX6_readShaper 30 = .ok (.putfield 50, 3) := by decide +kernel
theorem dX6_readShaper_33 : decode cX6_readShaper 33 = .ok (.aload_n 0, 1) := by decide +kernel
theorem dX6_readShaper_34 : decode cX6_readShaper 34 = .ok (.getfield 50, 3) := by decide +kernel
theorem dX6_readShaper_37 : decode cX6_readShaper 37 = .ok (.istore_n 2, 1) := by decide +kernel
theorem dX6_readShaper_38 : decode cX6_readShaper 38 = .ok (.aload_n 0, 1) := by decide +kernel
theorem dX6_readShaper_39 : decode cX6_readShaper 39 = .ok (.iconst 4, 1) := by decide +kernel
theorem dX6_readShaper_40 : decode cX6_readShaper 40 = .ok (.invokevirtual 74, 3) := by decide +kernel
theorem dX6_readShaper_43 : decode cX6_readShaper 43 = .ok (.istore_n 3, 1) := by decide +kernel
theorem dX6_readShaper_44 : decode cX6_readShaper 44 = .ok (.iload_n 3, 1) := by decide +kernel
theorem dX6_readShaper_45 : decode cX6_readShaper 45 = .ok (.ifCond .ne 10, 3) := by decide +kernel
theorem dX6_readShaper_48 : decode cX6_readShaper 48 = .ok (.aload_n 0, 1) := by decide +kernel
theorem dX6_readShaper_49 : decode cX6_readShaper 49 = .ok (.iload_n 2, 1) := by decide +kernel
theorem dX6_readShaper_50 : decode cX6_readShaper 50 = .ok (.putfield 44, 3) := by decide +kernel
theorem dX6_readShaper_53 : decode cX6_readShaper 53 = .ok (.iconst 0, 1) := by decide +kernel
theorem dX6_readShaper_54 : decode cX6_readShaper 54 = .ok (.ireturn, 1) := by decide +kernel
theorem dX6_readShaper_55 : decode cX6_readShaper 55 = .ok (.iload_n 3, 1) := by decide +kernel
theorem dX6_readShaper_56 : decode cX6_readShaper 56 = .ok (.ifCond .lt 12, 3) := by decide +kernel
theorem dX6_readShaper_59 : decode cX6_readShaper 59 = .ok (.aload_n 0, 1) := by decide +kernel
theorem dX6_readShaper_60 : decode cX6_readShaper 60 = .ok (.invokevirtual 66, 3) := by decide +kernel
theorem dX6_readShaper_63 : decode cX6_readShaper 63 = .ok (.bipush 44, 2) := by decide +kernel
theorem dX6_readShaper_65 : decode cX6_readShaper 65 = .ok (.if_icmp .eq 13, 3) := by decide +kernel
theorem dX6_readShaper_68 : decode cX6_readShaper 68 = .ok (.aload_n 0, 1) := by decide +kernel
theorem dX6_readShaper_69 : decode cX6_readShaper 69 = .ok (.aload_n 0, 1) := by decide +kernel
theorem dX6_readShaper_70 : decode cX6_readShaper 70 = .ok (.getfield 50, 3) := by decide +kernel
theorem dX6_readShaper_73 : decode cX6_readShaper 73 = .ok (.putfield 44, 3) := by decide +kernel
theorem dX6_readShaper_76 : decode cX6_readShaper 76 = .ok (.iconst 0, 1) := by decide +kernel
theorem dX6_readShaper_77 : decode cX6_readShaper 77 = .ok (.ireturn, 1) := by decide +kernel
theorem dX6_readShaper_78 : decode cX6_readShaper 78 = .ok (.aload_n 0, 1) := by decide +kernel
theorem dX6_readShaper_79 : decode cX6_readShaper 79 = .ok (.dup, 1) := by decide +kernel
theorem dX6_readShaper_80 : decode cX6_readShaper 80 = .ok (.getfield 50, 3) := by decide +kernel
theorem dX6_readShaper_83 : decode cX6_readShaper 83 = .ok (.iconst 1, 1) := by decide +kernel
theorem dX6_readShaper_84 : decode cX6_readShaper 84 = .ok (.iadd, 1) := by decide +kernel
theorem dX6_readShaper_85 : decode cX6_readShaper 85 = .ok (.putfield 50, 3) := by decide +kernel
theorem dX6_readShaper_88 : decode cX6_readShaper 88 = .ok (.aload_n 0, 1) := by decide +kernel
theorem dX6_readShaper_89 : decode cX6_readShaper 89 = .ok (.iconst 4, 1) := by decide +kernel
theorem dX6_readShaper_90 : decode cX6_readShaper 90 = .ok (.invokevirtual 74, 3) := by decide +kernel
theorem dX6_readShaper_93 : decode cX6_readShaper 93 = .ok (.istore 4, 2) := by decide +kernel
theorem dX6_readShaper_95 : decode cX6_readShaper 95 = .ok (.iload 4, 2) := by decide +kernel
theorem dX6_readShaper_97 : decode cX6_readShaper 97 = .ok (.ifCond .ge 13, 3) := by decide +kernel
theorem dX6_readShaper_100 : decode cX6_readShaper 100 = .ok (.aload_n 0, 1) := by decide +kernel
theorem dX6_readShaper_101 : decode cX6_readShaper 101 = .ok (.aload_n 0, 1) := by decide +kernel
theorem dX6_readShaper_102 : decode cX6_readShaper 102 = .ok (.getfield 50, 3) := by decide +kernel
theorem dX6_readShaper_105 : decode cX6_readShaper 105 = .ok (.putfield 44, 3) := by decide +kernel
theorem dX6_readShaper_108 : decode cX6_readShaper 108 = .ok (.iconst 0, 1) := by decide +kernel
theorem dX6_readShaper_109 : decode cX6_readShaper 109 = .ok (.ireturn, 1) := by decide +kernel
theorem dX6_readShaper_110 : decode cX6_readShaper 110 = .ok (.aload_n 0, 1) := by decide +kernel
theorem dX6_readShaper_111 : decode cX6_readShaper 111 = .ok (.getfield 12, 3) := by decide +kernel
theorem dX6_readShaper_114 : decode cX6_readShaper 114 = .ok (.getfield 92, 3) := by decide +kernel
theorem dX6_readShaper_117 : decode cX6_readShaper 117 = .ok (.iload_n 1, 1) := by decide +kernel
theorem dX6_readShaper_118 : decode cX6_readShaper 118 = .ok (.iload_n 3, 1) := by decide +kernel
theorem dX6_readShaper_119 : decode cX6_readShaper 119 = .ok (.iastore, 1) := by decide +kernel
theorem dX6_readShaper_120 : decode cX6_readShaper 120 = .ok (.aload_n 0, 1) := by decide +kernel
theorem dX6_readShaper_121 : decode cX6_readShaper 121 = .ok (.getfield 12, 3) := by decide +kernel
theorem dX6_readShaper_124 : decode cX6_readShaper 124 = .ok (.getfield 95, 3) := by decide +kernel
theorem dX6_readShaper_127 : decode cX6_readShaper 127 = .ok (.iload_n 1, 1) := by decide +kernel
theorem dX6_readShaper_128 : decode cX6_readShaper 128 = .ok (.iload 4, 2) := by decide +kernel
theorem dX6_readShaper_130 : decode cX6_readShaper 130 = .ok (.iastore, 1) := by decide +kernel
theorem dX6_readShaper_131 : decode cX6_readShaper 131 = .ok (.iconst 1, 1) := by decide +kernel
theorem dX6_readShaper_132 : decode cX6_readShaper 132 = .ok (.ireturn, 1) := by decide +kernel
theorem dX6_readEnd_0 : decode cX6_readEnd 0 = .ok (.ldc 98, 2) := by decide +kernel
theorem dX6_readEnd_2 : decode cX6_readEnd 2 = .ok (.aload_n 0, 1) := by decide +kernel
theorem dX6_readEnd_3 : decode cX6_readEnd 3 = .ok (.invokevirtual 66, 3) := by decide +kernel
theorem dX6_readEnd_6 : decode cX6_readEnd 6 = .ok (.invokevirtual 100, 3) := by decide +kernel
theorem dX6_readEnd_9 : decode cX6_readEnd 9 = .ok (.iconst 1, 1) := by decide +kernel
theorem dX6_readEnd_10 : decode cX6_readEnd 10 = .ok (.iadd, 1) := by decide +kernel
theorem dX6_readEnd_11 : decode cX6_readEnd 11 = .ok (.istore_n 2, 1) := by decide +kernel
theorem dX6_readEnd_12 : decode cX6_readEnd 12 = .ok (.iload_n 2, 1) := by decide +kernel
theorem dX6_readEnd_13 : decode cX6_readEnd 13 = .ok (.ifCond .le 13, 3) := by decide +kernel
theorem dX6_readEnd_16 : decode cX6_readEnd 16 = .ok (.aload_n 0, 1) := by decide +kernel
theorem dX6_readEnd_17 : decode cX6_readEnd 17 = .ok (.dup, 1) := by decide +kernel
theorem dX6_readEnd_18 : decode cX6_readEnd 18 = .ok (.getfield 50, 3) := by decide +kernel
theorem dX6_readEnd_21 : decode cX6_readEnd 21 = .ok (.iconst 1, 1) := by decide +kernel
theorem dX6_readEnd_22 : decode cX6_readEnd 22 = .ok (.iadd, 1) := by decide +kernel
theorem dX6_readEnd_23 : decode cX6_readEnd 23 = .ok (.putfield 50, 3) := by decide +kernel
theorem dX6_readEnd_26 : decode cX6_readEnd 26 = .ok (.aload_n 0, 1) := by decide +kernel
theorem dX6_readEnd_27 : decode cX6_readEnd 27 = .ok (.getfield 12, 3) := by decide +kernel
theorem dX6_readEnd_30 : decode cX6_readEnd 30 = .ok (.getfield 103, 3) := by decide +kernel
theorem dX6_readEnd_33 : decode cX6_readEnd 33 = .ok (.iload_n 1, 1) := by decide +kernel
theorem dX6_readEnd_34 : decode cX6_readEnd 34 = .ok (.iload_n 2, 1) := by decide +kernel
theorem dX6_readEnd_35 : decode cX6_readEnd 35 = .ok (.iastore, 1) := by decide +kernel
theorem dX6_readEnd_36 : decode cX6_readEnd 36 = .ok (.aload_n 0, 1) := by decide +kernel
theorem dX6_readEnd_37 : decode cX6_readEnd 37 = .ok (.aload_n 0, 1) := by decide +kernel
theorem dX6_readEnd_38 : decode cX6_readEnd 38 = .ok (.getfield 50, 3) := by decide +kernel
theorem dX6_readEnd_41 : decode cX6_readEnd 41 = .ok (.putfield 41, 3) := by decide +kernel
theorem dX6_readEnd_44 : decode cX6_readEnd 44 = .ok (.aload_n 0, 1) := by decide +kernel
theorem dX6_readEnd_45 : decode cX6_readEnd 45 = .ok (.invokevirtual 66, 3) := by decide +kernel
theorem dX6_readEnd_48 : decode cX6_readEnd 48 = .ok (.ifCond .eq 12, 3) := by decide +kernel
theorem dX6_readEnd_51 : decode cX6_readEnd 51 = .ok (.aload_n 0, 1) := by decide +kernel
theorem dX6_readEnd_52 : decode cX6_readEnd 52 = .ok (.invokevirtual 66, 3) := by decide +kernel
theorem dX6_readEnd_55 : decode cX6_readEnd 55 = .ok (.bipush 59, 2) := by decide +kernel
theorem dX6_readEnd_57 : decode cX6_readEnd 57 = .ok (.if_icmp .ne 7, 3) := by decide +kernel
theorem dX6_readEnd_60 : decode cX6_readEnd 60 = .ok (.iconst 1, 1) := by decide +kernel
theorem dX6_readEnd_61 : decode cX6_readEnd 61 = .ok (.goto 4, 3) := by decide +kernel
theorem dX6_readEnd_64 : decode cX6_readEnd 64 = .ok (.iconst 0, 1) := by decide +kernel
theorem dX6_readEnd_65 : decode cX6_readEnd 65 = .ok (.ireturn, 1) := by decide +kernel
theorem dX6_readExpression_0 : decode cX6_readExpression 0 = .ok (.aload_n 0, 1) := by decide +kernel
theorem dX6_readExpression_1 : decode cX6_readExpression 1 = .ok (.iconst 0, 1) := by decide +kernel
theorem dX6_readExpression_2 : decode cX6_readExpression 2 = .ok (.putfield 106, 3) := by decide +kernel
theorem dX6_readExpression_5 : decode cX6_readExpression 5 = .ok (.iconst 0, 1) := by decide +kernel
theorem dX6_readExpression_6 : decode cX6_readExpression 6 = .ok (.istore_n 2, 1) := by decide +kernel
theorem dX6_readExpression_7 : decode cX6_readExpression 7 = .ok (.iconst 0, 1) := by decide +kernel
theorem dX6_readExpression_8 : decode cX6_readExpression 8 = .ok (.istore_n 3, 1) := by decide +kernel
theorem dX6_readExpression_9 : decode cX6_readExpression 9 = .ok (.iload_n 3, 1) := by decide +kernel
theorem dX6_readExpression_10 : decode cX6_readExpression 10 = .ok (.bipush 120, 2) := by decide +kernel
theorem dX6_readExpression_12 : decode cX6_readExpression 12 = .ok (.if_icmp .gt 54, 3) := by decide +kernel
theorem dX6_readExpression_15 : decode cX6_readExpression 15 = .ok (.iload_n 2, 1) := by decide +kernel
theorem dX6_readExpression_16 : decode cX6_readExpression 16 = .ok (.iconst 2, 1) := by decide +kernel
theorem dX6_readExpression_17 : decode cX6_readExpression 17 = .ok (.if_icmp .eq 49, 3) := by decide +kernel
theorem dX6_readExpression_20 : decode cX6_readExpression 20 = .ok (.iload_n 2, 1) := by decide +kernel
theorem dX6_readExpression_21 : decode cX6_readExpression 21 = .ok (.iconst 3, 1) := by decide +kernel
theorem dX6_readExpression_22 : decode cX6_readExpression 22 = .ok (.if_icmp .eq 44, 3) := by decide +kernel
theorem dX6_readExpression_25 : decode cX6_readExpression 25 = .ok (.iload_n 2, 1) := by decide +kernel
theorem dX6_readExpression_26 : decode cX6_readExpression 26 = .ok (.ifCond .ne 16, 3) := by decide +kernel
theorem dX6_readExpression_29 : decode cX6_readExpression 29 = .ok (.aload_n 0, 1) := by decide +kernel
theorem dX6_readExpression_30 : decode cX6_readExpression 30 = .ok (.aload_n 0, 1) := by decide +kernel
theorem dX6_readExpression_31 : decode cX6_readExpression 31 = .ok (.invokevirtual 66, 3) := by decide +kernel
theorem dX6_readExpression_34 : decode cX6_readExpression 34 = .ok (.iload_n 1, 1) := by decide +kernel
theorem dX6_readExpression_35 : decode cX6_readExpression 35 = .ok (.invokevirtual 109, 3) := by decide +kernel
theorem dX6_readExpression_38 : decode cX6_readExpression 38 = .ok (.istore_n 2, 1) := by decide +kernel
theorem dX6_readExpression_39 : decode cX6_readExpression 39 = .ok (.goto 12, 3) := by decide +kernel
theorem dX6_readExpression_42 : decode cX6_readExpression 42 = .ok (.aload_n 0, 1) := by decide +kernel
theorem dX6_readExpression_43 : decode cX6_readExpression 43 = .ok (.aload_n 0, 1) := by decide +kernel
theorem dX6_readExpression_44 : decode cX6_readExpression 44 = .ok (.invokevirtual 66, 3) := by decide +kernel
theorem dX6_readExpression_47 : decode cX6_readExpression 47 = .ok (.invokevirtual 113, 3) := by decide +kernel
theorem dX6_readExpression_50 : decode cX6_readExpression 50 = .ok (.istore_n 2, 1) := by decide +kernel
theorem dX6_readExpression_51 : decode cX6_readExpression 51 = .ok (.iload_n 2, 1) := by decide +kernel
theorem dX6_readExpression_52 : decode cX6_readExpression 52 = .ok (.iconst 1, 1) := by decide +kernel
theorem dX6_readExpression_53 : decode cX6_readExpression 53 = .ok (.if_icmp .ne 7, 3) := by decide +kernel
theorem dX6_readExpression_56 : decode cX6_readExpression 56 = .ok (.aload_n 0, 1) := by decide +kernel
theorem dX6_readExpression_57 : decode cX6_readExpression 57 = .ok (.invokevirtual 117, 3) := by decide +kernel
theorem dX6_readExpression_60 : decode cX6_readExpression 60 = .ok (.iinc 3 1, 3) := by decide +kernel
theorem dX6_readExpression_63 : decode cX6_readExpression 63 = .ok (.goto (-54), 3) := by decide +kernel
theorem dX6_readExpression_66 : decode cX6_readExpression 66 = .ok (.iload_n 2, 1) := by decide +kernel
theorem dX6_readExpression_67 : decode cX6_readExpression 67 = .ok (.iconst 2, 1) := by decide +kernel
theorem dX6_readExpression_68 : decode cX6_readExpression 68 = .ok (.if_icmp .ne 7, 3) := by decide +kernel
theorem dX6_readExpression_71 : decode cX6_readExpression 71 = .ok (.iconst 1, 1) := by decide +kernel
theorem dX6_readExpression_72 : decode cX6_readExpression 72 = .ok (.goto 4, 3) := by decide +kernel
theorem dX6_readExpression_75 : decode cX6_readExpression 75 = .ok (.iconst 0, 1) := by decide +kernel
theorem dX6_readExpression_76 : decode cX6_readExpression 76 = .ok (.ireturn, 1) := by decide +kernel
theorem dX6_readOperand_0 : decode cX6_readOperand 0 = .ok (.iload_n 1, 1) := by decide +kernel
theorem dX6_readOperand_1 : decode cX6_readOperand 1 = .ok (.invokestatic 120, 3) := by decide +kernel
theorem dX6_readOperand_4 : decode cX6_readOperand 4 = .ok (.ifCond .eq 26, 3) := by decide +kernel
theorem dX6_readOperand_7 : decode cX6_readOperand 7 = .ok (.aload_n 0, 1) := by decide +kernel
theorem dX6_readOperand_8 : decode cX6_readOperand 8 = .ok (.bipush 6, 2) := by decide +kernel
theorem dX6_readOperand_10 : decode cX6_readOperand 10 = .ok (.invokevirtual 74, 3) := by decide +kernel
theorem dX6_readOperand_13 : decode cX6_readOperand 13 = .ok (.istore_n 3, 1) := by decide +kernel
theorem dX6_readOperand_14 : decode cX6_readOperand 14 = .ok (.iload_n 3, 1) := by decide +kernel
theorem dX6_readOperand_15 : decode cX6_readOperand 15 = .ok (.ifCond .ge 5, 3) := by decide +kernel
theorem dX6_readOperand_18 : decode cX6_readOperand 18 = .ok (.iconst 3, 1) := by decide +kernel
theorem dX6_readOperand_19 : decode cX6_readOperand 19 = .ok (.ireturn, 1) := by decide +kernel
theorem dX6_readOperand_20 : decode cX6_readOperand 20 = .ok (.aload_n 0, 1) := by decide +kernel
theorem dX6_readOperand_21 : decode cX6_readOperand 21 = .ok (.getfield 12, 3) := by decide +kernel
theorem dX6_readOperand_24 : decode cX6_readOperand 24 = .ok (.iload_n 3, 1) := by decide +kernel
theorem dX6_readOperand_25 : decode cX6_readOperand 25 = .ok (.invokevirtual 124, 3) := by decide +kernel
theorem dX6_readOperand_28 : decode cX6_readOperand 28 = .ok (.iconst 1, 1) := by decide +kernel
theorem dX6_readOperand_29 : decode cX6_readOperand 29 = .ok (.ireturn, 1) := by decide +kernel
theorem dX6_readOperand_30 : decode cX6_readOperand 30 = .ok (.iload_n 1, 1) := by decide +kernel
theorem dX6_readOperand_31 : decode cX6_readOperand 31 = .ok (.bipush 45, 2) := by decide +kernel
theorem dX6_readOperand_33 : decode cX6_readOperand 33 = .ok (.if_icmp .eq 9, 3) := by decide +kernel
theorem dX6_readOperand_36 : decode cX6_readOperand 36 = .ok (.iload_n 1, 1) := by decide +kernel
theorem dX6_readOperand_37 : decode cX6_readOperand 37 = .ok (.bipush 40, 2) := by decide +kernel
theorem dX6_readOperand_39 : decode cX6_readOperand 39 = .ok (.if_icmp .ne 31, 3) := by decide +kernel
theorem dX6_readOperand_42 : decode cX6_readOperand 42 = .ok (.aload_n 0, 1) := by decide +kernel
theorem dX6_readOperand_43 : decode cX6_readOperand 43 = .ok (.iload_n 1, 1) := by decide +kernel
theorem dX6_readOperand_44 : decode cX6_readOperand 44 = .ok (.bipush 45, 2) := by decide +kernel
theorem dX6_readOperand_46 : decode cX6_readOperand 46 = .ok (.if_icmp .ne 8, 3) := by decide +kernel
theorem dX6_readOperand_49 : decode cX6_readOperand 49 = .ok (.bipush 126, 2) := by decide +kernel
theorem dX6_readOperand_51 : decode cX6_readOperand 51 = .ok (.goto 4, 3) := by decide +kernel
theorem dX6_readOperand_54 : decode cX6_readOperand 54 = .ok (.iload_n 1, 1) := by decide +kernel
theorem dX6_readOperand_55 : decode cX6_readOperand 55 = .ok (.invokevirtual 127, 3) := by decide +kernel
theorem dX6_readOperand_58 : decode cX6_readOperand 58 = .ok (.aload_n 0, 1) := by decide +kernel
theorem dX6_readOperand_59 : decode cX6_readOperand 59 = .ok (.dup, 1) := by decide +kernel
theorem dX6_readOperand_60 : decode cX6_readOperand 60 = .ok (.getfield 50, 3) := by decide +kernel
theorem dX6_readOperand_63 : decode cX6_readOperand 63 = .ok (.iconst 1, 1) := by decide +kernel
theorem dX6_readOperand_64 : decode cX6_readOperand 64 = .ok (.iadd, 1) := by decide +kernel
theorem dX6_readOperand_65 : decode cX6_readOperand 65 = .ok (.putfield 50, 3) := by decide +kernel
theorem dX6_readOperand_68 : decode cX6_readOperand 68 = .ok (.iconst 0, 1) := by decide +kernel
theorem dX6_readOperand_69 : decode cX6_readOperand 69 = .ok (.ireturn, 1) := by decide +kernel
theorem dX6_readOperand_70 : decode cX6_readOperand 70 = .ok (.iload_n 1, 1) := by decide +kernel
theorem dX6_readOperand_71 : decode cX6_readOperand 71 = .ok (.bipush 77, 2) := by decide +kernel
theorem dX6_readOperand_73 : decode cX6_readOperand 73 = .ok (.if_icmp .eq 9, 3) := by decide +kernel
theorem dX6_readOperand_76 : decode cX6_readOperand 76 = .ok (.iload_n 1, 1) := by decide +kernel
theorem dX6_readOperand_77 : decode cX6_readOperand 77 = .ok (.bipush 109, 2) := by decide +kernel
theorem dX6_readOperand_79 : decode cX6_readOperand 79 = .ok (.if_icmp .ne 41, 3) := by decide +kernel
theorem dX6_readOperand_82 : decode cX6_readOperand 82 = .ok (.aload_n 0, 1) := by decide +kernel
theorem dX6_readOperand_83 : decode cX6_readOperand 83 = .ok (.dup, 1) := by decide +kernel
theorem dX6_readOperand_84 : decode cX6_readOperand 84 = .ok (.getfield 50, 3) := by decide +kernel
theorem dX6_readOperand_87 : decode cX6_readOperand 87 = .ok (.iconst 1, 1) := by decide +kernel
theorem dX6_readOperand_88 : decode cX6_readOperand 88 = .ok (.iadd, 1) := by decide +kernel
theorem dX6_readOperand_89 : decode cX6_readOperand 89 = .ok (.putfield 50, 3) := by decide +kernel
theorem dX6_readOperand_92 : decode cX6_readOperand 92 = .ok (.aload_n 0, 1) := by decide +kernel
theorem dX6_readOperand_93 : decode cX6_readOperand 93 = .ok (.invokevirtual 66, 3) := by decide +kernel
theorem dX6_readOperand_96 : decode cX6_readOperand 96 = .ok (.bipush 40, 2) := by decide +kernel
theorem dX6_readOperand_98 : decode cX6_readOperand 98 = .ok (.if_icmp .eq 5, 3) := by decide +kernel
theorem dX6_readOperand_101 : decode cX6_readOperand 101 = .ok (.iconst 3, 1) := by decide +kernel
theorem dX6_readOperand_102 : decode cX6_readOperand 102 = .ok (.ireturn, 1) := by decide +kernel
theorem dX6_readOperand_103 : decode cX6_readOperand 103 = .ok (.aload_n 0, 1) := by decide +kernel
theorem dX6_readOperand_104 : decode cX6_readOperand 104 = .ok (.iload_n 1, 1) := by decide +kernel
theorem dX6_readOperand_105 : decode cX6_readOperand 105 = .ok (.invokevirtual 127, 3) := by decide +kernel
theorem dX6_readOperand_108 : decode cX6_readOperand 108 = .ok (.aload_n 0, 1) := by decide +kernel
theorem dX6_readOperand_109 : decode cX6_readOperand 109 = .ok (.dup, 1) := by decide +kernel
theorem dX6_readOperand_110 : decode cX6_readOperand 110 = .ok (.getfield 50, 3) := by decide +kernel
theorem dX6_readOperand_113 : decode cX6_readOperand 113 = .ok (.iconst 1, 1) := by decide +kernel
theorem dX6_readOperand_114 : decode cX6_readOperand 114 = .ok (.iadd, 1) := by decide +kernel
theorem dX6_readOperand_115 : decode cX6_readOperand 115 = .ok (.putfield 50, 3) := by decide +kernel
theorem dX6_readOperand_118 : decode cX6_readOperand 118 = .ok (.iconst 0, 1) := by decide +kernel
theorem dX6_readOperand_119 : decode cX6_readOperand 119 = .ok (.ireturn, 1) := by decide +kernel
theorem dX6_readOperand_120 : decode cX6_readOperand 120 = .ok (.ldc 131, 2) := by decide +kernel
theorem dX6_readOperand_122 : decode cX6_readOperand 122 = .ok (.iload_n 1, 1) := by decide +kernel
theorem dX6_readOperand_123 : decode cX6_readOperand 123 = .ok (.invokevirtual 100, 3) := by decide +kernel
theorem dX6_readOperand_126 : decode cX6_readOperand 126 = .ok (.istore_n 3, 1) := by decide +kernel
theorem dX6_readOperand_127 : decode cX6_readOperand 127 = .ok (.iload_n 3, 1) := by decide +kernel
theorem dX6_readOperand_128 : decode cX6_readOperand 128 = .ok (.ifCond .lt 13, 3) := by decide +kernel
theorem dX6_readOperand_131 : decode cX6_readOperand 131 = .ok (.iload_n 3, 1) := by decide +kernel
theorem dX6_readOperand_132 : decode cX6_readOperand 132 = .ok (.bipush 9, 2) := by decide +kernel
theorem dX6_readOperand_134 : decode cX6_readOperand 134 = .ok (.if_icmp .ne 9, 3) := by decide +kernel
theorem dX6_readOperand_137 : decode cX6_readOperand 137 = .ok (.iload_n 2, 1) := by decide +kernel
theorem dX6_readOperand_138 : decode cX6_readOperand 138 = .ok (.ifCond .ne 5, 3) := by decide +kernel
theorem dX6_readOperand_141 : decode cX6_readOperand 141 = .ok (.iconst 3, 1) := by decide +kernel
theorem dX6_readOperand_142 : decode cX6_readOperand 142 = .ok (.ireturn, 1) := by decide +kernel
theorem dX6_readOperand_143 : decode cX6_readOperand 143 = .ok (.aload_n 0, 1) := by decide +kernel
theorem dX6_readOperand_144 : decode cX6_readOperand 144 = .ok (.getfield 12, 3) := by decide +kernel
theorem dX6_readOperand_147 : decode cX6_readOperand 147 = .ok (.iconst (-1), 1) := by decide +kernel
theorem dX6_readOperand_148 : decode cX6_readOperand 148 = .ok (.iload_n 3, 1) := by decide +kernel
theorem dX6_readOperand_149 : decode cX6_readOperand 149 = .ok (.isub, 1) := by decide +kernel
theorem dX6_readOperand_150 : decode cX6_readOperand 150 = .ok (.invokevirtual 124, 3) := by decide +kernel
theorem dX6_readOperand_153 : decode cX6_readOperand 153 = .ok (.aload_n 0, 1) := by decide +kernel
theorem dX6_readOperand_154 : decode cX6_readOperand 154 = .ok (.dup, 1) := by decide +kernel
theorem dX6_readOperand_155 : decode cX6_readOperand 155 = .ok (.getfield 50, 3) := by decide +kernel
theorem dX6_readOperand_158 : decode cX6_readOperand 158 = .ok (.iconst 1, 1) := by decide +kernel
theorem dX6_readOperand_159 : decode cX6_readOperand 159 = .ok (.iadd, 1) := by decide +kernel
theorem dX6_readOperand_160 : decode cX6_readOperand 160 = .ok (.putfield 50, 3) := by decide +kernel
theorem dX6_readOperand_163 : decode cX6_readOperand 163 = .ok (.iconst 1, 1) := by decide +kernel
theorem dX6_readOperand_164 : decode cX6_readOperand 164 = .ok (.ireturn, 1) := by decide +kernel
theorem dX6_readOperator_0 : decode cX6_readOperator 0 = .ok (.iload_n 1, 1) := by decide +kernel
theorem dX6_readOperator_1 : decode cX6_readOperator 1 = .ok (.invokestatic 133, 3) := by decide +kernel
theorem dX6_readOperator_4 : decode cX6_readOperator 4 = .ok (.istore_n 2, 1) := by decide +kernel
theorem dX6_readOperator_5 : decode cX6_readOperator 5 = .ok (.aload_n 0, 1) := by decide +kernel
theorem dX6_readOperator_6 : decode cX6_readOperator 6 = .ok (.iload_n 2, 1) := by decide +kernel
theorem dX6_readOperator_7 : decode cX6_readOperator 7 = .ok (.ifCond .ne 7, 3) := by decide +kernel
theorem dX6_readOperator_10 : decode cX6_readOperator 10 = .ok (.iconst 1, 1) := by decide +kernel
theorem dX6_readOperator_11 : decode cX6_readOperator 11 = .ok (.goto 4, 3) := by decide +kernel
theorem dX6_readOperator_14 : decode cX6_readOperator 14 = .ok (.iload_n 2, 1) := by decide +kernel
theorem dX6_readOperator_15 : decode cX6_readOperator 15 = .ok (.invokevirtual 136, 3) := by decide +kernel
theorem dX6_readOperator_18 : decode cX6_readOperator 18 = .ok (.iload_n 2, 1) := by decide +kernel
theorem dX6_readOperator_19 : decode cX6_readOperator 19 = .ok (.ifCond .le 20, 3) := by decide +kernel
theorem dX6_readOperator_22 : decode cX6_readOperator 22 = .ok (.aload_n 0, 1) := by decide +kernel
theorem dX6_readOperator_23 : decode cX6_readOperator 23 = .ok (.iload_n 1, 1) := by decide +kernel
theorem dX6_readOperator_24 : decode cX6_readOperator 24 = .ok (.invokevirtual 127, 3) := by decide +kernel
theorem dX6_readOperator_27 : decode cX6_readOperator 27 = .ok (.aload_n 0, 1) := by decide +kernel
theorem dX6_readOperator_28 : decode cX6_readOperator 28 = .ok (.dup, 1) := by decide +kernel
theorem dX6_readOperator_29 : decode cX6_readOperator 29 = .ok (.getfield 50, 3) := by decide +kernel
theorem dX6_readOperator_32 : decode cX6_readOperator 32 = .ok (.iconst 1, 1) := by decide +kernel
theorem dX6_readOperator_33 : decode cX6_readOperator 33 = .ok (.iadd, 1) := by decide +kernel
theorem dX6_readOperator_34 : decode cX6_readOperator 34 = .ok (.putfield 50, 3) := by decide +kernel
theorem dX6_readOperator_37 : decode cX6_readOperator 37 = .ok (.iconst 0, 1) := by decide +kernel
theorem dX6_readOperator_38 : decode cX6_readOperator 38 = .ok (.ireturn, 1) := by decide +kernel
theorem dX6_readOperator_39 : decode cX6_readOperator 39 = .ok (.aload_n 0, 1) := by decide +kernel
theorem dX6_readOperator_40 : decode cX6_readOperator 40 = .ok (.invokevirtual 139, 3) := by decide +kernel
theorem dX6_readOperator_43 : decode cX6_readOperator 43 = .ok (.istore_n 3, 1) := by decide +kernel
theorem dX6_readOperator_44 : decode cX6_readOperator 44 = .ok (.iload_n 3, 1) := by decide +kernel
theorem dX6_readOperator_45 : decode cX6_readOperator 45 = .ok (.ifCond .ne 5, 3) := by decide +kernel
theorem dX6_readOperator_48 : decode cX6_readOperator 48 = .ok (.iconst 2, 1) := by decide +kernel
theorem dX6_readOperator_49 : decode cX6_readOperator 49 = .ok (.ireturn, 1) := by decide +kernel
theorem dX6_readOperator_50 : decode cX6_readOperator 50 = .ok (.iload_n 1, 1) := by decide +kernel
theorem dX6_readOperator_51 : decode cX6_readOperator 51 = .ok (.bipush 44, 2) := by decide +kernel
theorem dX6_readOperator_53 : decode cX6_readOperator 53 = .ok (.if_icmp .ne 54, 3) := by decide +kernel
theorem dX6_readOperator_56 : decode cX6_readOperator 56 = .ok (.iload_n 3, 1) := by decide +kernel
theorem dX6_readOperator_57 : decode cX6_readOperator 57 = .ok (.bipush 77, 2) := by decide +kernel
theorem dX6_readOperator_59 : decode cX6_readOperator 59 = .ok (.if_icmp .eq 9, 3) := by decide +kernel
theorem dX6_readOperator_62 : decode cX6_readOperator 62 = .ok (.iload_n 3, 1) := by decide +kernel
theorem dX6_readOperator_63 : decode cX6_readOperator 63 = .ok (.bipush 109, 2) := by decide +kernel
theorem dX6_readOperator_65 : decode cX6_readOperator 65 = .ok (.if_icmp .ne 42, 3) := by decide +kernel
theorem dX6_readOperator_68 : decode cX6_readOperator 68 = .ok (.aload_n 0, 1) := by decide +kernel
theorem dX6_readOperator_69 : decode cX6_readOperator 69 = .ok (.dup, 1) := by decide +kernel
theorem dX6_readOperator_70 : decode cX6_readOperator 70 = .ok (.getfield 106, 3) := by decide +kernel
theorem dX6_readOperator_73 : decode cX6_readOperator 73 = .ok (.iconst 1, 1) := by decide +kernel
theorem dX6_readOperator_74 : decode cX6_readOperator 74 = .ok (.isub, 1) := by decide +kernel
theorem dX6_readOperator_75 : decode cX6_readOperator 75 = .ok (.putfield 106, 3) := by decide +kernel
theorem dX6_readOperator_78 : decode cX6_readOperator 78 = .ok (.aload_n 0, 1) := by decide +kernel
theorem dX6_readOperator_79 : decode cX6_readOperator 79 = .ok (.iload_n 3, 1) := by decide +kernel
theorem dX6_readOperator_80 : decode cX6_readOperator 80 = .ok (.bipush 77, 2) := by decide +kernel
theorem dX6_readOperator_82 : decode cX6_readOperator 82 = .ok (.if_icmp .ne 8, 3) := by decide +kernel
theorem dX6_readOperator_85 : decode cX6_readOperator 85 = .ok (.bipush 71, 2) := by decide +kernel
theorem dX6_readOperator_87 : decode cX6_readOperator 87 = .ok (.goto 5, 3) := by decide +kernel
theorem dX6_readOperator_90 : decode cX6_readOperator 90 = .ok (.bipush 83, 2) := by decide +kernel
theorem dX6_readOperator_92 : decode cX6_readOperator 92 = .ok (.invokevirtual 127, 3) := by decide +kernel
theorem dX6_readOperator_95 : decode cX6_readOperator 95 = .ok (.aload_n 0, 1) := by decide +kernel
theorem dX6_readOperator_96 : decode cX6_readOperator 96 = .ok (.dup, 1) := by decide +kernel
theorem dX6_readOperator_97 : decode cX6_readOperator 97 = .ok (.getfield 50, 3) := by decide +kernel
theorem dX6_readOperator_100 : decode cX6_readOperator 100 = .ok (.iconst 1, 1) := by decide +kernel
theorem dX6_readOperator_101 : decode cX6_readOperator 101 = .ok (.iadd, 1) := by decide +kernel
theorem dX6_readOperator_102 : decode cX6_readOperator 102 = .ok (.putfield 50, 3) := by decide +kernel
theorem dX6_readOperator_105 : decode cX6_readOperator 105 = .ok (.iconst 0, 1) := by decide +kernel
theorem dX6_readOperator_106 : decode cX6_readOperator 106 = .ok (.ireturn, 1) := by decide +kernel
theorem dX6_readOperator_107 : decode cX6_readOperator 107 = .ok (.iload_n 1, 1) := by decide +kernel
theorem dX6_readOperator_108 : decode cX6_readOperator 108 = .ok (.bipush 41, 2) := by decide +kernel
theorem dX6_readOperator_110 : decode cX6_readOperator 110 = .ok (.if_icmp .ne 15, 3) := by decide +kernel
theorem dX6_readOperator_113 : decode cX6_readOperator 113 = .ok (.iload_n 3, 1) := by decide +kernel
theorem dX6_readOperator_114 : decode cX6_readOperator 114 = .ok (.bipush 77, 2) := by decide +kernel
theorem dX6_readOperator_116 : decode cX6_readOperator 116 = .ok (.if_icmp .eq 9, 3) := by decide +kernel
theorem dX6_readOperator_119 : decode cX6_readOperator 119 = .ok (.iload_n 3, 1) := by decide +kernel
theorem dX6_readOperator_120 : decode cX6_readOperator 120 = .ok (.bipush 109, 2) := by decide +kernel
theorem dX6_readOperator_122 : decode cX6_readOperator 122 = .ok (.if_icmp .ne 5, 3) := by decide +kernel
theorem dX6_readOperator_125 : decode cX6_readOperator 125 = .ok (.iconst 3, 1) := by decide +kernel
theorem dX6_readOperator_126 : decode cX6_readOperator 126 = .ok (.ireturn, 1) := by decide +kernel
theorem dX6_readOperator_127 : decode cX6_readOperator 127 = .ok (.aload_n 0, 1) := by decide +kernel
theorem dX6_readOperator_128 : decode cX6_readOperator 128 = .ok (.dup, 1) := by decide +kernel
theorem dX6_readOperator_129 : decode cX6_readOperator 129 = .ok (.getfield 106, 3) := by decide +kernel
theorem dX6_readOperator_132 : decode cX6_readOperator 132 = .ok (.iconst 1, 1) := by decide +kernel
theorem dX6_readOperator_133 : decode cX6_readOperator 133 = .ok (.isub, 1) := by decide +kernel
theorem dX6_readOperator_134 : decode cX6_readOperator 134 = .ok (.putfield 106, 3) := by decide +kernel
theorem dX6_readOperator_137 : decode cX6_readOperator 137 = .ok (.iload_n 3, 1) := by decide +kernel
theorem dX6_readOperator_138 : decode cX6_readOperator 138 = .ok (.bipush 40, 2) := by decide +kernel
theorem dX6_readOperator_140 : decode cX6_readOperator 140 = .ok (.if_icmp .eq 23, 3) := by decide +kernel
theorem dX6_readOperator_143 : decode cX6_readOperator 143 = .ok (.aload_n 0, 1) := by decide +kernel
theorem dX6_readOperator_144 : decode cX6_readOperator 144 = .ok (.getfield 12, 3) := by decide +kernel
theorem dX6_readOperator_147 : decode cX6_readOperator 147 = .ok (.iload_n 3, 1) := by decide +kernel
theorem dX6_readOperator_148 : decode cX6_readOperator 148 = .ok (.bipush 71, 2) := by decide +kernel
theorem dX6_readOperator_150 : decode cX6_readOperator 150 = .ok (.if_icmp .ne 8, 3) := by decide +kernel
theorem dX6_readOperator_153 : decode cX6_readOperator 153 = .ok (.bipush (-77), 2) := by decide +kernel
theorem dX6_readOperator_155 : decode cX6_readOperator 155 = .ok (.goto 5, 3) := by decide +kernel
theorem dX6_readOperator_158 : decode cX6_readOperator 158 = .ok (.bipush (-109), 2) := by decide +kernel
theorem dX6_readOperator_160 : decode cX6_readOperator 160 = .ok (.invokevirtual 124, 3) := by decide +kernel
theorem dX6_readOperator_163 : decode cX6_readOperator 163 = .ok (.aload_n 0, 1) := by decide +kernel
theorem dX6_readOperator_164 : decode cX6_readOperator 164 = .ok (.dup, 1) := by decide +kernel
theorem dX6_readOperator_165 : decode cX6_readOperator 165 = .ok (.getfield 50, 3) := by decide +kernel
theorem dX6_readOperator_168 : decode cX6_readOperator 168 = .ok (.iconst 1, 1) := by decide +kernel
theorem dX6_readOperator_169 : decode cX6_readOperator 169 = .ok (.iadd, 1) := by decide +kernel
theorem dX6_readOperator_170 : decode cX6_readOperator 170 = .ok (.putfield 50, 3) := by decide +kernel
theorem dX6_readOperator_173 : decode cX6_readOperator 173 = .ok (.iconst 1, 1) := by decide +kernel
theorem dX6_readOperator_174 : decode cX6_readOperator 174 = .ok (.ireturn, 1) := by decide +kernel
theorem dX6_closeNegations_0 : decode cX6_closeNegations 0 = .ok (.aload_n 0, 1) := by decide +kernel
theorem dX6_closeNegations_1 : decode cX6_closeNegations 1 = .ok (.getfield 106, 3) := by decide +kernel
theorem dX6_closeNegations_4 : decode cX6_closeNegations 4 = .ok (.ifCond .le 34, 3) := by decide +kernel
theorem dX6_closeNegations_7 : decode cX6_closeNegations 7 = .ok (.aload_n 0, 1) := by decide +kernel
theorem dX6_closeNegations_8 : decode cX6_closeNegations 8 = .ok (.invokevirtual 139, 3) := by decide +kernel
theorem dX6_closeNegations_11 : decode cX6_closeNegations 11 = .ok (.bipush 126, 2) := by decide +kernel
theorem dX6_closeNegations_13 : decode cX6_closeNegations 13 = .ok (.if_icmp .ne 25, 3) := by decide +kernel
theorem dX6_closeNegations_16 : decode cX6_closeNegations 16 = .ok (.aload_n 0, 1) := by decide +kernel
theorem dX6_closeNegations_17 : decode cX6_closeNegations 17 = .ok (.getfield 12, 3) := by decide +kernel
theorem dX6_closeNegations_20 : decode cX6_closeNegations 20 = .ok (.bipush (-126), 2) := by decide +kernel
theorem dX6_closeNegations_22 : decode cX6_closeNegations 22 = .ok (.invokevirtual 124, 3) := by decide +kernel
theorem dX6_closeNegations_25 : decode cX6_closeNegations 25 = .ok (.aload_n 0, 1) := by decide +kernel
theorem dX6_closeNegations_26 : decode cX6_closeNegations 26 = .ok (.dup, 1) := by decide +kernel
theorem dX6_closeNegations_27 : decode cX6_closeNegations 27 = .ok (.getfield 106, 3) := by decide +kernel
theorem dX6_closeNegations_30 : decode cX6_closeNegations 30 = .ok (.iconst 1, 1) := by decide +kernel
theorem dX6_closeNegations_31 : decode cX6_closeNegations 31 = .ok (.isub, 1) := by decide +kernel
theorem dX6_closeNegations_32 : decode cX6_closeNegations 32 = .ok (.putfield 106, 3) := by decide +kernel
theorem dX6_closeNegations_35 : decode cX6_closeNegations 35 = .ok (.goto (-35), 3) := by decide +kernel
theorem dX6_closeNegations_38 : decode cX6_closeNegations 38 = .ok (.return_, 1) := by decide +kernel
theorem dX6_closeOperators_0 : decode cX6_closeOperators 0 = .ok (.aload_n 0, 1) := by decide +kernel
theorem dX6_closeOperators_1 : decode cX6_closeOperators 1 = .ok (.getfield 106, 3) := by decide +kernel
theorem dX6_closeOperators_4 : decode cX6_closeOperators 4 = .ok (.ifCond .le 39, 3) := by decide +kernel
theorem dX6_closeOperators_7 : decode cX6_closeOperators 7 = .ok (.aload_n 0, 1) := by decide +kernel
theorem dX6_closeOperators_8 : decode cX6_closeOperators 8 = .ok (.invokevirtual 139, 3) := by decide +kernel
theorem dX6_closeOperators_11 : decode cX6_closeOperators 11 = .ok (.invokestatic 133, 3) := by decide +kernel
theorem dX6_closeOperators_14 : decode cX6_closeOperators 14 = .ok (.iload_n 1, 1) := by decide +kernel
theorem dX6_closeOperators_15 : decode cX6_closeOperators 15 = .ok (.if_icmp .lt 28, 3) := by decide +kernel
theorem dX6_closeOperators_18 : decode cX6_closeOperators 18 = .ok (.aload_n 0, 1) := by decide +kernel
theorem dX6_closeOperators_19 : decode cX6_closeOperators 19 = .ok (.getfield 12, 3) := by decide +kernel
theorem dX6_closeOperators_22 : decode cX6_closeOperators 22 = .ok (.aload_n 0, 1) := by decide +kernel
theorem dX6_closeOperators_23 : decode cX6_closeOperators 23 = .ok (.invokevirtual 139, 3) := by decide +kernel
theorem dX6_closeOperators_26 : decode cX6_closeOperators 26 = .ok (.ineg, 1) := by decide +kernel
theorem dX6_closeOperators_27 : decode cX6_closeOperators 27 = .ok (.invokevirtual 124, 3) := by decide +kernel
theorem dX6_closeOperators_30 : decode cX6_closeOperators 30 = .ok (.aload_n 0, 1) := by decide +kernel
theorem dX6_closeOperators_31 : decode cX6_closeOperators 31 = .ok (.dup, 1) := by decide +kernel
theorem dX6_closeOperators_32 : decode cX6_closeOperators 32 = .ok (.getfield 106, 3) := by decide +kernel
theorem dX6_closeOperators_35 : decode cX6_closeOperators 35 = .ok (.iconst 1, 1) := by decide +kernel
theorem dX6_closeOperators_36 : decode cX6_closeOperators 36 = .ok (.isub, 1) := by decide +kernel
theorem dX6_closeOperators_37 : decode cX6_closeOperators 37 = .ok (.putfield 106, 3) := by decide +kernel
theorem dX6_closeOperators_40 : decode cX6_closeOperators 40 = .ok (.goto (-40), 3) := by decide +kernel
theorem dX6_closeOperators_43 : decode cX6_closeOperators 43 = .ok (.return_, 1) := by decide +kernel
theorem dX6_strengthOf_0 : decode cX6_strengthOf 0 = .ok (.iload_n 0, 1) := by decide +kernel
theorem dX6_strengthOf_1 : decode cX6_strengthOf 1 = .ok (.bipush 42, 2) := by decide +kernel
theorem dX6_strengthOf_3 : decode cX6_strengthOf 3 = .ok (.if_icmp .eq 9, 3) := by decide +kernel
theorem dX6_strengthOf_6 : decode cX6_strengthOf 6 = .ok (.iload_n 0, 1) := by decide +kernel
theorem dX6_strengthOf_7 : decode cX6_strengthOf 7 = .ok (.bipush 47, 2) := by decide +kernel
theorem dX6_strengthOf_9 : decode cX6_strengthOf 9 = .ok (.if_icmp .ne 5, 3) := by decide +kernel
theorem dX6_strengthOf_12 : decode cX6_strengthOf 12 = .ok (.iconst 2, 1) := by decide +kernel
theorem dX6_strengthOf_13 : decode cX6_strengthOf 13 = .ok (.ireturn, 1) := by decide +kernel
theorem dX6_strengthOf_14 : decode cX6_strengthOf 14 = .ok (.iload_n 0, 1) := by decide +kernel
theorem dX6_strengthOf_15 : decode cX6_strengthOf 15 = .ok (.bipush 43, 2) := by decide +kernel
theorem dX6_strengthOf_17 : decode cX6_strengthOf 17 = .ok (.if_icmp .eq 9, 3) := by decide +kernel
theorem dX6_strengthOf_20 : decode cX6_strengthOf 20 = .ok (.iload_n 0, 1) := by decide +kernel
theorem dX6_strengthOf_21 : decode cX6_strengthOf 21 = .ok (.bipush 45, 2) := by decide +kernel
theorem dX6_strengthOf_23 : decode cX6_strengthOf 23 = .ok (.if_icmp .ne 7, 3) := by decide +kernel
theorem dX6_strengthOf_26 : decode cX6_strengthOf 26 = .ok (.iconst 1, 1) := by decide +kernel
theorem dX6_strengthOf_27 : decode cX6_strengthOf 27 = .ok (.goto 4, 3) := by decide +kernel
theorem dX6_strengthOf_30 : decode cX6_strengthOf 30 = .ok (.iconst 0, 1) := by decide +kernel
theorem dX6_strengthOf_31 : decode cX6_strengthOf 31 = .ok (.ireturn, 1) := by decide +kernel
theorem dX6_pushOpen_0 : decode cX6_pushOpen 0 = .ok (.aload_n 0, 1) := by decide +kernel
theorem dX6_pushOpen_1 : decode cX6_pushOpen 1 = .ok (.getfield 106, 3) := by decide +kernel
theorem dX6_pushOpen_4 : decode cX6_pushOpen 4 = .ok (.ifCond .lt 35, 3) := by decide +kernel
theorem dX6_pushOpen_7 : decode cX6_pushOpen 7 = .ok (.aload_n 0, 1) := by decide +kernel
theorem dX6_pushOpen_8 : decode cX6_pushOpen 8 = .ok (.getfield 106, 3) := by decide +kernel
theorem dX6_pushOpen_11 : decode cX6_pushOpen 11 = .ok (.aload_n 0, 1) := by decide +kernel
theorem dX6_pushOpen_12 : decode cX6_pushOpen 12 = .ok (.getfield 22, 3) := by decide +kernel
theorem dX6_pushOpen_15 : decode cX6_pushOpen 15 = .ok (.arraylength, 1) := by decide +kernel
theorem dX6_pushOpen_16 : decode cX6_pushOpen 16 = .ok (.if_icmp .ge 23, 3) := by decide +kernel
theorem dX6_pushOpen_19 : decode cX6_pushOpen 19 = .ok (.aload_n 0, 1) := by decide +kernel
theorem dX6_pushOpen_20 : decode cX6_pushOpen 20 = .ok (.getfield 22, 3) := by decide +kernel
theorem dX6_pushOpen_23 : decode cX6_pushOpen 23 = .ok (.aload_n 0, 1) := by decide +kernel
theorem dX6_pushOpen_24 : decode cX6_pushOpen 24 = .ok (.getfield 106, 3) := by decide +kernel
theorem dX6_pushOpen_27 : decode cX6_pushOpen 27 = .ok (.iload_n 1, 1) := by decide +kernel
theorem dX6_pushOpen_28 : decode cX6_pushOpen 28 = .ok (.castore, 1) := by decide +kernel
theorem dX6_pushOpen_29 : decode cX6_pushOpen 29 = .ok (.aload_n 0, 1) := by decide +kernel
theorem dX6_pushOpen_30 : decode cX6_pushOpen 30 = .ok (.dup, 1) := by decide +kernel
theorem dX6_pushOpen_31 : decode cX6_pushOpen 31 = .ok (.getfield 106, 3) := by decide +kernel
theorem dX6_pushOpen_34 : decode cX6_pushOpen 34 = .ok (.iconst 1, 1) := by decide +kernel
theorem dX6_pushOpen_35 : decode cX6_pushOpen 35 = .ok (.iadd, 1) := by decide +kernel
theorem dX6_pushOpen_36 : decode cX6_pushOpen 36 = .ok (.putfield 106, 3) := by decide +kernel
theorem dX6_pushOpen_39 : decode cX6_pushOpen 39 = .ok (.return_, 1) := by decide +kernel
theorem dX6_topOpen_0 : decode cX6_topOpen 0 = .ok (.aload_n 0, 1) := by decide +kernel
theorem dX6_topOpen_1 : decode cX6_topOpen 1 = .ok (.getfield 106, 3) := by decide +kernel
theorem dX6_topOpen_4 : decode cX6_topOpen 4 = .ok (.ifCond .le 29, 3) := by decide +kernel
theorem dX6_topOpen_7 : decode cX6_topOpen 7 = .ok (.aload_n 0, 1) := by decide +kernel
theorem dX6_topOpen_8 : decode cX6_topOpen 8 = .ok (.getfield 106, 3) := by decide +kernel
theorem dX6_topOpen_11 : decode cX6_topOpen 11 = .ok (.aload_n 0, 1) := by decide +kernel
theorem dX6_topOpen_12 : decode cX6_topOpen 12 = .ok (.getfield 22, 3) := by decide +kernel
theorem dX6_topOpen_15 : decode cX6_topOpen 15 = .ok (.arraylength, 1) := by decide +kernel
theorem dX6_topOpen_16 : decode cX6_topOpen 16 = .ok (.if_icmp .gt 17, 3) := by decide +kernel
theorem dX6_topOpen_19 : decode cX6_topOpen 19 = .ok (.aload_n 0, 1) := by decide +kernel
theorem dX6_topOpen_20 : decode cX6_topOpen 20 = .ok (.getfield 22, 3) := by decide +kernel
theorem dX6_topOpen_23 : decode cX6_topOpen 23 = .ok (.aload_n 0, 1) := by decide +kernel
theorem dX6_topOpen_24 : decode cX6_topOpen 24 = .ok (.getfield 106, 3) := by decide +kernel
theorem dX6_topOpen_27 : decode cX6_topOpen 27 = .ok (.iconst 1, 1) := by decide +kernel
theorem dX6_topOpen_28 : decode cX6_topOpen 28 = .ok (.isub, 1) := by decide +kernel
theorem dX6_topOpen_29 : decode cX6_topOpen 29 = .ok (.caload, 1) := by decide +kernel
theorem dX6_topOpen_30 : decode cX6_topOpen 30 = .ok (.goto 4, 3) := by decide +kernel
theorem dX6_topOpen_33 : decode cX6_topOpen 33 = .ok (.iconst 0, 1) := by decide +kernel
theorem dX6_topOpen_34 : decode cX6_topOpen 34 = .ok (.ireturn, 1) := by decide +kernel
theorem dX6_readNumber_0 : decode cX6_readNumber 0 = .ok (.iconst 0, 1) := by decide +kernel
theorem dX6_readNumber_1 : decode cX6_readNumber 1 = .ok (.istore_n 2, 1) := by decide +kernel
theorem dX6_readNumber_2 : decode cX6_readNumber 2 = .ok (.iconst 0, 1) := by decide +kernel
theorem dX6_readNumber_3 : decode cX6_readNumber 3 = .ok (.istore_n 3, 1) := by decide +kernel
theorem dX6_readNumber_4 : decode cX6_readNumber 4 = .ok (.iload_n 3, 1) := by decide +kernel
theorem dX6_readNumber_5 : decode cX6_readNumber 5 = .ok (.iload_n 1, 1) := by decide +kernel
theorem dX6_readNumber_6 : decode cX6_readNumber 6 = .ok (.if_icmp .gt 59, 3) := by decide +kernel
theorem dX6_readNumber_9 : decode cX6_readNumber 9 = .ok (.aload_n 0, 1) := by decide +kernel
theorem dX6_readNumber_10 : decode cX6_readNumber 10 = .ok (.invokevirtual 66, 3) := by decide +kernel
theorem dX6_readNumber_13 : decode cX6_readNumber 13 = .ok (.istore 4, 2) := by decide +kernel
theorem dX6_readNumber_15 : decode cX6_readNumber 15 = .ok (.iload 4, 2) := by decide +kernel
theorem dX6_readNumber_17 : decode cX6_readNumber 17 = .ok (.invokestatic 120, 3) := by decide +kernel
theorem dX6_readNumber_20 : decode cX6_readNumber 20 = .ok (.ifCond .ne 13, 3) := by decide +kernel
theorem dX6_readNumber_23 : decode cX6_readNumber 23 = .ok (.iload_n 3, 1) := by decide +kernel
theorem dX6_readNumber_24 : decode cX6_readNumber 24 = .ok (.ifCond .ne 7, 3) := by decide +kernel
theorem dX6_readNumber_27 : decode cX6_readNumber 27 = .ok (.iconst (-1), 1) := by decide +kernel
theorem dX6_readNumber_28 : decode cX6_readNumber 28 = .ok (.goto 4, 3) := by decide +kernel
theorem dX6_readNumber_31 : decode cX6_readNumber 31 = .ok (.iload_n 2, 1) := by decide +kernel
theorem dX6_readNumber_32 : decode cX6_readNumber 32 = .ok (.ireturn, 1) := by decide +kernel
theorem dX6_readNumber_33 : decode cX6_readNumber 33 = .ok (.iload_n 3, 1) := by decide +kernel
theorem dX6_readNumber_34 : decode cX6_readNumber 34 = .ok (.iload_n 1, 1) := by decide +kernel
theorem dX6_readNumber_35 : decode cX6_readNumber 35 = .ok (.if_icmp .ge 24, 3) := by decide +kernel
theorem dX6_readNumber_38 : decode cX6_readNumber 38 = .ok (.iload_n 2, 1) := by decide +kernel
theorem dX6_readNumber_39 : decode cX6_readNumber 39 = .ok (.bipush 10, 2) := by decide +kernel
theorem dX6_readNumber_41 : decode cX6_readNumber 41 = .ok (.imul, 1) := by decide +kernel
theorem dX6_readNumber_42 : decode cX6_readNumber 42 = .ok (.iload 4, 2) := by decide +kernel
theorem dX6_readNumber_44 : decode cX6_readNumber 44 = .ok (.bipush 48, 2) := by decide +kernel
theorem dX6_readNumber_46 : decode cX6_readNumber 46 = .ok (.isub, 1) := by decide +kernel
theorem dX6_readNumber_47 : decode cX6_readNumber 47 = .ok (.iadd, 1) := by decide +kernel
theorem dX6_readNumber_48 : decode cX6_readNumber 48 = .ok (.istore_n 2, 1) := by decide +kernel
theorem dX6_readNumber_49 : decode cX6_readNumber 49 = .ok (.aload_n 0, 1) := by decide +kernel
theorem dX6_readNumber_50 : decode cX6_readNumber 50 = .ok (.dup, 1) := by decide +kernel
theorem dX6_readNumber_51 : decode cX6_readNumber 51 = .ok (.getfield 50, 3) := by decide +kernel
theorem dX6_readNumber_54 : decode cX6_readNumber 54 = .ok (.iconst 1, 1) := by decide +kernel
theorem dX6_readNumber_55 : decode cX6_readNumber 55 = .ok (.iadd, 1) := by decide +kernel
theorem dX6_readNumber_56 : decode cX6_readNumber 56 = .ok (.putfield 50, 3) := by decide +kernel
theorem dX6_readNumber_59 : decode cX6_readNumber 59 = .ok (.iinc 3 1, 3) := by decide +kernel
theorem dX6_readNumber_62 : decode cX6_readNumber 62 = .ok (.goto (-58), 3) := by decide +kernel
theorem dX6_readNumber_65 : decode cX6_readNumber 65 = .ok (.iconst (-1), 1) := by decide +kernel
theorem dX6_readNumber_66 : decode cX6_readNumber 66 = .ok (.ireturn, 1) := by decide +kernel
theorem dX6_sign_0 : decode cX6_sign 0 = .ok (.aload_n 0, 1) := by decide +kernel
theorem dX6_sign_1 : decode cX6_sign 1 = .ok (.getfield 50, 3) := by decide +kernel
theorem dX6_sign_4 : decode cX6_sign 4 = .ok (.ifCond .lt 38, 3) := by decide +kernel
theorem dX6_sign_7 : decode cX6_sign 7 = .ok (.aload_n 0, 1) := by decide +kernel
theorem dX6_sign_8 : decode cX6_sign 8 = .ok (.getfield 50, 3) := by decide +kernel
theorem dX6_sign_11 : decode cX6_sign 11 = .ok (.aload_n 0, 1) := by decide +kernel
theorem dX6_sign_12 : decode cX6_sign 12 = .ok (.getfield 25, 3) := by decide +kernel
theorem dX6_sign_15 : decode cX6_sign 15 = .ok (.if_icmp .ge 27, 3) := by decide +kernel
theorem dX6_sign_18 : decode cX6_sign 18 = .ok (.aload_n 0, 1) := by decide +kernel
theorem dX6_sign_19 : decode cX6_sign 19 = .ok (.getfield 50, 3) := by decide +kernel
theorem dX6_sign_22 : decode cX6_sign 22 = .ok (.aload_n 0, 1) := by decide +kernel
theorem dX6_sign_23 : decode cX6_sign 23 = .ok (.getfield 18, 3) := by decide +kernel
theorem dX6_sign_26 : decode cX6_sign 26 = .ok (.arraylength, 1) := by decide +kernel
theorem dX6_sign_27 : decode cX6_sign 27 = .ok (.if_icmp .ge 15, 3) := by decide +kernel
theorem dX6_sign_30 : decode cX6_sign 30 = .ok (.aload_n 0, 1) := by decide +kernel
theorem dX6_sign_31 : decode cX6_sign 31 = .ok (.getfield 18, 3) := by decide +kernel
theorem dX6_sign_34 : decode cX6_sign 34 = .ok (.aload_n 0, 1) := by decide +kernel
theorem dX6_sign_35 : decode cX6_sign 35 = .ok (.getfield 50, 3) := by decide +kernel
theorem dX6_sign_38 : decode cX6_sign 38 = .ok (.caload, 1) := by decide +kernel
theorem dX6_sign_39 : decode cX6_sign 39 = .ok (.goto 4, 3) := by decide +kernel
theorem dX6_sign_42 : decode cX6_sign 42 = .ok (.iconst 0, 1) := by decide +kernel
theorem dX6_sign_43 : decode cX6_sign 43 = .ok (.ireturn, 1) := by decide +kernel
theorem dX6_isDigit_0 : decode cX6_isDigit 0 = .ok (.iload_n 0, 1) := by decide +kernel
theorem dX6_isDigit_1 : decode cX6_isDigit 1 = .ok (.bipush 48, 2) := by decide +kernel
theorem dX6_isDigit_3 : decode cX6_isDigit 3 = .ok (.if_icmp .lt 13, 3) := by decide +kernel
theorem dX6_isDigit_6 : decode cX6_isDigit 6 = .ok (.iload_n 0, 1) := by decide +kernel
theorem dX6_isDigit_7 : decode cX6_isDigit 7 = .ok (.bipush 57, 2) := by decide +kernel
theorem dX6_isDigit_9 : decode cX6_isDigit 9 = .ok (.if_icmp .gt 7, 3) := by decide +kernel
theorem dX6_isDigit_12 : decode cX6_isDigit 12 = .ok (.iconst 1, 1) := by decide +kernel
theorem dX6_isDigit_13 : decode cX6_isDigit 13 = .ok (.goto 4, 3) := by decide +kernel
theorem dX6_isDigit_16 : decode cX6_isDigit 16 = .ok (.iconst 0, 1) := by decide +kernel
theorem dX6_isDigit_17 : decode cX6_isDigit 17 = .ok (.ireturn, 1) := by decide +kernel
theorem dX7_init_0 : decode cX7_init 0 = .ok (.aload_n 0, 1) := by decide +kernel
theorem dX7_init_1 : decode cX7_init 1 = .ok (.invokespecial 3, 3) := by decide +kernel
theorem dX7_init_4 : decode cX7_init 4 = .ok (.aload_n 0, 1) := by decide +kernel
theorem dX7_init_5 : decode cX7_init 5 = .ok (.iconst 1, 1) := by decide +kernel
theorem dX7_init_6 : decode cX7_init 6 = .ok (.putfield 9, 3) := by decide +kernel
theorem dX7_init_9 : decode cX7_init 9 = .ok (.aload_n 0, 1) := by decide +kernel
theorem dX7_init_10 : decode cX7_init 10 = .ok (.new 15, 3) := by decide +kernel
theorem dX7_init_13 : decode cX7_init 13 = .ok (.dup, 1) := by decide +kernel
theorem dX7_init_14 : decode cX7_init 14 = .ok (.invokespecial 17, 3) := by decide +kernel
theorem dX7_init_17 : decode cX7_init 17 = .ok (.putfield 18, 3) := by decide +kernel
theorem dX7_init_20 : decode cX7_init 20 = .ok (.aload_n 0, 1) := by decide +kernel
theorem dX7_init_21 : decode cX7_init 21 = .ok (.bipush 12, 2) := by decide +kernel
theorem dX7_init_23 : decode cX7_init 23 = .ok (.anewarray 22, 3) := by decide +kernel
theorem dX7_init_26 : decode cX7_init 26 = .ok (.putfield 24, 3) := by decide +kernel
theorem dX7_init_29 : decode cX7_init 29 = .ok (.aload_n 0, 1) := by decide +kernel
theorem dX7_init_30 : decode cX7_init 30 = .ok (.new 28, 3) := by decide +kernel
theorem dX7_init_33 : decode cX7_init 33 = .ok (.dup, 1) := by decide +kernel
theorem dX7_init_34 : decode cX7_init 34 = .ok (.invokespecial 30, 3) := by decide +kernel
theorem dX7_init_37 : decode cX7_init 37 = .ok (.putfield 31, 3) := by decide +kernel
theorem dX7_init_40 : decode cX7_init 40 = .ok (.aload_n 0, 1) := by decide +kernel
theorem dX7_init_41 : decode cX7_init 41 = .ok (.new 35, 3) := by decide +kernel
theorem dX7_init_44 : decode cX7_init 44 = .ok (.dup, 1) := by decide +kernel
theorem dX7_init_45 : decode cX7_init 45 = .ok (.invokespecial 37, 3) := by decide +kernel
theorem dX7_init_48 : decode cX7_init 48 = .ok (.putfield 38, 3) := by decide +kernel
theorem dX7_init_51 : decode cX7_init 51 = .ok (.aload_n 0, 1) := by decide +kernel
theorem dX7_init_52 : decode cX7_init 52 = .ok (.new 42, 3) := by decide +kernel
theorem dX7_init_55 : decode cX7_init 55 = .ok (.dup, 1) := by decide +kernel
theorem dX7_init_56 : decode cX7_init 56 = .ok (.invokespecial 44, 3) := by decide +kernel
theorem dX7_init_59 : decode cX7_init 59 = .ok (.putfield 45, 3) := by decide +kernel
theorem dX7_init_62 : decode cX7_init 62 = .ok (.aload_n 0, 1) := by decide +kernel
theorem dX7_init_63 : decode cX7_init 63 = .ok (.aload_n 1, 1) := by decide +kernel
theorem dX7_init_64 : decode cX7_init 64 = .ok (.putfield 49, 3) := by decide +kernel
theorem dX7_init_67 : decode cX7_init 67 = .ok (.iconst 0, 1) := by decide +kernel
theorem dX7_init_68 : decode cX7_init 68 = .ok (.istore_n 2, 1) := by decide +kernel
theorem dX7_init_69 : decode cX7_init 69 = .ok (.iload_n 2, 1) := by decide +kernel
theorem dX7_init_70 : decode cX7_init 70 = .ok (.aload_n 0, 1) := by decide +kernel
theorem dX7_init_71 : decode cX7_init 71 = .ok (.getfield 24, 3) := by decide +kernel
theorem dX7_init_74 : decode cX7_init 74 = .ok (.arraylength, 1) := by decide +kernel
theorem dX7_init_75 : decode cX7_init 75 = .ok (.if_icmp .ge 22, 3) := by decide +kernel
theorem dX7_init_78 : decode cX7_init 78 = .ok (.aload_n 0, 1) := by decide +kernel
theorem dX7_init_79 : decode cX7_init 79 = .ok (.getfield 24, 3) := by decide +kernel
theorem dX7_init_82 : decode cX7_init 82 = .ok (.iload_n 2, 1) := by decide +kernel
theorem dX7_init_83 : decode cX7_init 83 = .ok (.new 22, 3) := by decide +kernel
theorem dX7_init_86 : decode cX7_init 86 = .ok (.dup, 1) := by decide +kernel
theorem dX7_init_87 : decode cX7_init 87 = .ok (.invokespecial 53, 3) := by decide +kernel
theorem dX7_init_90 : decode cX7_init 90 = .ok (.aastore, 1) := by decide +kernel
theorem dX7_init_91 : decode cX7_init 91 = .ok (.iinc 2 1, 3) := by decide +kernel
theorem dX7_init_94 : decode cX7_init 94 = .ok (.goto (-25), 3) := by decide +kernel
theorem dX7_init_97 : decode cX7_init 97 = .ok (.return_, 1) := by decide +kernel
theorem dX7_startWith_0 : decode cX7_startWith 0 = .ok (.aload_n 0, 1) := by decide +kernel
theorem dX7_startWith_1 : decode cX7_startWith 1 = .ok (.getfield 18, 3) := by decide +kernel
theorem dX7_startWith_4 : decode cX7_startWith 4 = .ok (.aload_n 1, 1) := by decide +kernel
theorem dX7_startWith_5 : decode cX7_startWith 5 = .ok (.invokevirtual 54, 3) := by decide +kernel
theorem dX7_startWith_8 : decode cX7_startWith 8 = .ok (.aload_n 0, 1) := by decide +kernel
theorem dX7_startWith_9 : decode cX7_startWith 9 = .ok (.lconst 0, 1) := by decide +kernel
theorem dX7_startWith_10 : decode cX7_startWith 10 = .ok (.putfield 58, 3) := by decide +kernel
theorem dX7_startWith_13 : decode cX7_startWith 13 = .ok (.aload_n 0, 1) := by decide +kernel
theorem dX7_startWith_14 : decode cX7_startWith 14 = .ok (.getfield 31, 3) := by decide +kernel
theorem dX7_startWith_17 : decode cX7_startWith 17 = .ok (.iconst 0, 1) := by decide +kernel
theorem dX7_startWith_18 : decode cX7_startWith 18 = .ok (.putfield 62, 3) := by decide +kernel
theorem dX7_startWith_21 : decode cX7_startWith 21 = .ok (.aload_n 0, 1) := by decide +kernel
theorem dX7_startWith_22 : decode cX7_startWith 22 = .ok (.getfield 45, 3) := by decide +kernel
theorem dX7_startWith_25 : decode cX7_startWith 25 = .ok (.iconst 0, 1) := by decide +kernel
theorem dX7_startWith_26 : decode cX7_startWith 26 = .ok (.putfield 65, 3) := by decide +kernel
theorem dX7_startWith_29 : decode cX7_startWith 29 = .ok (.iconst 0, 1) := by decide +kernel
theorem dX7_startWith_30 : decode cX7_startWith 30 = .ok (.istore_n 2, 1) := by decide +kernel
theorem dX7_startWith_31 : decode cX7_startWith 31 = .ok (.iload_n 2, 1) := by decide +kernel
theorem dX7_startWith_32 : decode cX7_startWith 32 = .ok (.aload_n 0, 1) := by decide +kernel
theorem dX7_startWith_33 : decode cX7_startWith 33 = .ok (.getfield 24, 3) := by decide +kernel
theorem dX7_startWith_36 : decode cX7_startWith 36 = .ok (.arraylength, 1) := by decide +kernel
theorem dX7_startWith_37 : decode cX7_startWith 37 = .ok (.if_icmp .ge 18, 3) := by decide +kernel
theorem dX7_startWith_40 : decode cX7_startWith 40 = .ok (.aload_n 0, 1) := by decide +kernel
theorem dX7_startWith_41 : decode cX7_startWith 41 = .ok (.getfield 24, 3) := by decide +kernel
theorem dX7_startWith_44 : decode cX7_startWith 44 = .ok (.iload_n 2, 1) := by decide +kernel
theorem dX7_startWith_45 : decode cX7_startWith 45 = .ok (.aaload, 1) := by decide +kernel
theorem dX7_startWith_46 : decode cX7_startWith 46 = .ok (.invokevirtual 68, 3) := by decide +kernel
theorem dX7_startWith_49 : decode cX7_startWith 49 = .ok (.iinc 2 1, 3) := by decide +kernel
theorem dX7_startWith_52 : decode cX7_startWith 52 = .ok (.goto (-21), 3) := by decide +kernel
theorem dX7_startWith_55 : decode cX7_startWith 55 = .ok (.aload_n 0, 1) := by decide +kernel
theorem dX7_startWith_56 : decode cX7_startWith 56 = .ok (.getfield 38, 3) := by decide +kernel
theorem dX7_startWith_59 : decode cX7_startWith 59 = .ok (.aload_n 0, 1) := by decide +kernel
theorem dX7_startWith_60 : decode cX7_startWith 60 = .ok (.getfield 18, 3) := by decide +kernel
theorem dX7_startWith_63 : decode cX7_startWith 63 = .ok (.invokevirtual 71, 3) := by decide +kernel
theorem dX7_startWith_66 : decode cX7_startWith 66 = .ok (.invokevirtual 75, 3) := by decide +kernel
theorem dX7_startWith_69 : decode cX7_startWith 69 = .ok (.return_, 1) := by decide +kernel
theorem dX7_copyFrom_0 : decode cX7_copyFrom 0 = .ok (.aload_n 0, 1) := by decide +kernel
theorem dX7_copyFrom_1 : decode cX7_copyFrom 1 = .ok (.aload_n 1, 1) := by decide +kernel
theorem dX7_copyFrom_2 : decode cX7_copyFrom 2 = .ok (.getfield 58, 3) := by decide +kernel
theorem dX7_copyFrom_5 : decode cX7_copyFrom 5 = .ok (.putfield 58, 3) := by decide +kernel
theorem dX7_copyFrom_8 : decode cX7_copyFrom 8 = .ok (.aload_n 0, 1) := by decide +kernel
theorem dX7_copyFrom_9 : decode cX7_copyFrom 9 = .ok (.aload_n 1, 1) := by decide +kernel
theorem dX7_copyFrom_10 : decode cX7_copyFrom 10 = .ok (.getfield 9, 3) := by decide +kernel
theorem dX7_copyFrom_13 : decode cX7_copyFrom 13 = .ok (.putfield 9, 3) := by decide +kernel
theorem dX7_copyFrom_16 : decode cX7_copyFrom 16 = .ok (.aload_n 0, 1) := by decide +kernel
theorem dX7_copyFrom_17 : decode cX7_copyFrom 17 = .ok (.getfield 18, 3) := by decide +kernel
theorem dX7_copyFrom_20 : decode cX7_copyFrom 20 = .ok (.aload_n 1, 1) := by decide +kernel
theorem dX7_copyFrom_21 : decode cX7_copyFrom 21 = .ok (.getfield 18, 3) := by decide +kernel
theorem dX7_copyFrom_24 : decode cX7_copyFrom 24 = .ok (.invokevirtual 54, 3) := by decide +kernel
theorem dX7_copyFrom_27 : decode cX7_copyFrom 27 = .ok (.aload_n 0, 1) := by decide +kernel
theorem dX7_copyFrom_28 : decode cX7_copyFrom 28 = .ok (.getfield 31, 3) := by decide +kernel
theorem dX7_copyFrom_31 : decode cX7_copyFrom 31 = .ok (.aload_n 1, 1) := by decide +kernel
theorem dX7_copyFrom_32 : decode cX7_copyFrom 32 = .ok (.getfield 31, 3) := by decide +kernel
theorem dX7_copyFrom_35 : decode cX7_copyFrom 35 = .ok (.invokevirtual 78, 3) := by decide +kernel
theorem dX7_copyFrom_38 : decode cX7_copyFrom 38 = .ok (.aload_n 0, 1) := by decide +kernel
theorem dX7_copyFrom_39 : decode cX7_copyFrom 39 = .ok (.getfield 38, 3) := by decide +kernel
theorem dX7_copyFrom_42 : decode cX7_copyFrom 42 = .ok (.aload_n 1, 1) := by decide +kernel
theorem dX7_copyFrom_43 : decode cX7_copyFrom 43 = .ok (.getfield 38, 3) := by decide +kernel
theorem dX7_copyFrom_46 : decode cX7_copyFrom 46 = .ok (.invokevirtual 81, 3) := by decide +kernel
theorem dX7_copyFrom_49 : decode cX7_copyFrom 49 = .ok (.aload_n 0, 1) := by decide +kernel
theorem dX7_copyFrom_50 : decode cX7_copyFrom 50 = .ok (.getfield 45, 3) := by decide +kernel
theorem dX7_copyFrom_53 : decode cX7_copyFrom 53 = .ok (.aload_n 1, 1) := by decide +kernel
theorem dX7_copyFrom_54 : decode cX7_copyFrom 54 = .ok (.getfield 45, 3) := by decide +kernel
theorem dX7_copyFrom_57 : decode cX7_copyFrom 57 = .ok (.invokevirtual 84, 3) := by decide +kernel
theorem dX7_copyFrom_60 : decode cX7_copyFrom 60 = .ok (.iconst 0, 1) := by decide +kernel
theorem dX7_copyFrom_61 : decode cX7_copyFrom 61 = .ok (.istore_n 2, 1) := by decide +kernel
theorem dX7_copyFrom_62 : decode cX7_copyFrom 62 = .ok (.iload_n 2, 1) := by decide +kernel
theorem dX7_copyFrom_63 : decode cX7_copyFrom 63 = .ok (.aload_n 0, 1) := by decide +kernel
theorem dX7_copyFrom_64 : decode cX7_copyFrom 64 = .ok (.getfield 24, 3) := by decide +kernel
theorem dX7_copyFrom_67 : decode cX7_copyFrom 67 = .ok (.arraylength, 1) := by decide +kernel
theorem dX7_copyFrom_68 : decode cX7_copyFrom 68 = .ok (.if_icmp .ge 24, 3) := by decide +kernel
theorem dX7_copyFrom_71 : decode cX7_copyFrom 71 = .ok (.aload_n 0, 1) := by decide +kernel
theorem dX7_copyFrom_72 : decode cX7_copyFrom 72 = .ok (.getfield 24, 3) := by decide +kernel
theorem dX7_copyFrom_75 : decode cX7_copyFrom 75 = .ok (.iload_n 2, 1) := by decide +kernel
theorem dX7_copyFrom_76 : decode cX7_copyFrom 76 = .ok (.aaload, 1) := by decide +kernel
theorem dX7_copyFrom_77 : decode cX7_copyFrom 77 = .ok (.aload_n 1, 1) := by decide +kernel
theorem dX7_copyFrom_78 : decode cX7_copyFrom 78 = .ok (.getfield 24, 3) := by decide +kernel
theorem dX7_copyFrom_81 : decode cX7_copyFrom 81 = .ok (.iload_n 2, 1) := by decide +kernel
theorem dX7_copyFrom_82 : decode cX7_copyFrom 82 = .ok (.aaload, 1) := by decide +kernel
theorem dX7_copyFrom_83 : decode cX7_copyFrom 83 = .ok (.invokevirtual 87, 3) := by decide +kernel
theorem dX7_copyFrom_86 : decode cX7_copyFrom 86 = .ok (.iinc 2 1, 3) := by decide +kernel
theorem dX7_copyFrom_89 : decode cX7_copyFrom 89 = .ok (.goto (-27), 3) := by decide +kernel
theorem dX7_copyFrom_92 : decode cX7_copyFrom 92 = .ok (.return_, 1) := by decide +kernel
theorem dX7_countWaiting_0 : decode cX7_countWaiting 0 = .ok (.iconst 0, 1) := by decide +kernel
theorem dX7_countWaiting_1 : decode cX7_countWaiting 1 = .ok (.istore_n 1, 1) := by decide +kernel
theorem dX7_countWaiting_2 : decode cX7_countWaiting 2 = .ok (.iconst 0, 1) := by decide +kernel
theorem dX7_countWaiting_3 : decode cX7_countWaiting 3 = .ok (.istore_n 2, 1) := by decide +kernel
theorem dX7_countWaiting_4 : decode cX7_countWaiting 4 = .ok (.iload_n 2, 1) := by decide +kernel
theorem dX7_countWaiting_5 : decode cX7_countWaiting 5 = .ok (.aload_n 0, 1) := by decide +kernel
theorem dX7_countWaiting_6 : decode cX7_countWaiting 6 = .ok (.getfield 24, 3) := by decide +kernel
theorem dX7_countWaiting_9 : decode cX7_countWaiting 9 = .ok (.arraylength, 1) := by decide +kernel
theorem dX7_countWaiting_10 : decode cX7_countWaiting 10 = .ok (.if_icmp .ge 32, 3) := by decide +kernel
theorem dX7_countWaiting_13 : decode cX7_countWaiting 13 = .ok (.aload_n 0, 1) := by decide +kernel
theorem dX7_countWaiting_14 : decode cX7_countWaiting 14 = .ok (.getfield 18, 3) := by decide +kernel
theorem dX7_countWaiting_17 : decode cX7_countWaiting 17 = .ok (.iload_n 2, 1) := by decide +kernel
theorem dX7_countWaiting_18 : decode cX7_countWaiting 18 = .ok (.invokevirtual 90, 3) := by decide +kernel
theorem dX7_countWaiting_21 : decode cX7_countWaiting 21 = .ok (.ifCond .eq 15, 3) := by decide +kernel
theorem dX7_countWaiting_24 : decode cX7_countWaiting 24 = .ok (.iload_n 1, 1) := by decide +kernel
theorem dX7_countWaiting_25 : decode cX7_countWaiting 25 = .ok (.aload_n 0, 1) := by decide +kernel
theorem dX7_countWaiting_26 : decode cX7_countWaiting 26 = .ok (.getfield 24, 3) := by decide +kernel
theorem dX7_countWaiting_29 : decode cX7_countWaiting 29 = .ok (.iload_n 2, 1) := by decide +kernel
theorem dX7_countWaiting_30 : decode cX7_countWaiting 30 = .ok (.aaload, 1) := by decide +kernel
theorem dX7_countWaiting_31 : decode cX7_countWaiting 31 = .ok (.getfield 94, 3) := by decide +kernel
theorem dX7_countWaiting_34 : decode cX7_countWaiting 34 = .ok (.iadd, 1) := by decide +kernel
theorem dX7_countWaiting_35 : decode cX7_countWaiting 35 = .ok (.istore_n 1, 1) := by decide +kernel
theorem dX7_countWaiting_36 : decode cX7_countWaiting 36 = .ok (.iinc 2 1, 3) := by decide +kernel
theorem dX7_countWaiting_39 : decode cX7_countWaiting 39 = .ok (.goto (-35), 3) := by decide +kernel
theorem dX7_countWaiting_42 : decode cX7_countWaiting 42 = .ok (.iload_n 1, 1) := by decide +kernel
theorem dX7_countWaiting_43 : decode cX7_countWaiting 43 = .ok (.ireturn, 1) := by decide +kernel
theorem dX7_arrive_0 : decode cX7_arrive 0 = .ok (.aload_n 0, 1) := by decide +kernel
theorem dX7_arrive_1 : decode cX7_arrive 1 = .ok (.getfield 31, 3) := by decide +kernel
theorem dX7_arrive_4 : decode cX7_arrive 4 = .ok (.iload_n 1, 1) := by decide +kernel
theorem dX7_arrive_5 : decode cX7_arrive 5 = .ok (.iload_n 2, 1) := by decide +kernel
theorem dX7_arrive_6 : decode cX7_arrive 6 = .ok (.iload_n 3, 1) := by decide +kernel
theorem dX7_arrive_7 : decode cX7_arrive 7 = .ok (.aload_n 0, 1) := by decide +kernel
theorem dX7_arrive_8 : decode cX7_arrive 8 = .ok (.getfield 58, 3) := by decide +kernel
theorem dX7_arrive_11 : decode cX7_arrive 11 = .ok (.aload_n 0, 1) := by decide +kernel
theorem dX7_arrive_12 : decode cX7_arrive 12 = .ok (.getfield 58, 3) := by decide +kernel
theorem dX7_arrive_15 : decode cX7_arrive 15 = .ok (.iload 4, 2) := by decide +kernel
theorem dX7_arrive_17 : decode cX7_arrive 17 = .ok (.i2l, 1) := by decide +kernel
theorem dX7_arrive_18 : decode cX7_arrive 18 = .ok (.ladd, 1) := by decide +kernel
theorem dX7_arrive_19 : decode cX7_arrive 19 = .ok (.invokevirtual 95, 3) := by decide +kernel
theorem dX7_arrive_22 : decode cX7_arrive 22 = .ok (.istore 5, 2) := by decide +kernel
theorem dX7_arrive_24 : decode cX7_arrive 24 = .ok (.aload_n 0, 1) := by decide +kernel
theorem dX7_arrive_25 : decode cX7_arrive 25 = .ok (.aload_n 0, 1) := by decide +kernel
theorem dX7_arrive_26 : decode cX7_arrive 26 = .ok (.iload_n 1, 1) := by decide +kernel
theorem dX7_arrive_27 : decode cX7_arrive 27 = .ok (.invokevirtual 99, 3) := by decide +kernel
theorem dX7_arrive_30 : decode cX7_arrive 30 = .ok (.iload 5, 2) := by decide +kernel
theorem dX7_arrive_32 : decode cX7_arrive 32 = .ok (.iload 5, 2) := by decide +kernel
theorem dX7_arrive_34 : decode cX7_arrive 34 = .ok (.aload_n 0, 1) := by decide +kernel
theorem dX7_arrive_35 : decode cX7_arrive 35 = .ok (.getfield 58, 3) := by decide +kernel
theorem dX7_arrive_38 : decode cX7_arrive 38 = .ok (.invokevirtual 103, 3) := by decide +kernel
theorem dX7_arrive_41 : decode cX7_arrive 41 = .ok (.iload 5, 2) := by decide +kernel
theorem dX7_arrive_43 : decode cX7_arrive 43 = .ok (.ireturn, 1) := by decide +kernel
theorem dX7_rankOfArrival_0 : decode cX7_rankOfArrival 0 = .ok (.aload_n 0, 1) := by decide +kernel
theorem dX7_rankOfArrival_1 : decode cX7_rankOfArrival 1 = .ok (.iload_n 1, 1) := by decide +kernel
theorem dX7_rankOfArrival_2 : decode cX7_rankOfArrival 2 = .ok (.invokevirtual 99, 3) := by decide +kernel
theorem dX7_rankOfArrival_5 : decode cX7_rankOfArrival 5 = .ok (.istore 5, 2) := by decide +kernel
theorem dX7_rankOfArrival_7 : decode cX7_rankOfArrival 7 = .ok (.aload_n 0, 1) := by decide +kernel
theorem dX7_rankOfArrival_8 : decode cX7_rankOfArrival 8 = .ok (.getfield 49, 3) := by decide +kernel
theorem dX7_rankOfArrival_11 : decode cX7_rankOfArrival 11 = .ok (.iload_n 3, 1) := by decide +kernel
theorem dX7_rankOfArrival_12 : decode cX7_rankOfArrival 12 = .ok (.i2l, 1) := by decide +kernel
theorem dX7_rankOfArrival_13 : decode cX7_rankOfArrival 13 = .ok (.iload_n 2, 1) := by decide +kernel
theorem dX7_rankOfArrival_14 : decode cX7_rankOfArrival 14 = .ok (.i2l, 1) := by decide +kernel
theorem dX7_rankOfArrival_15 : decode cX7_rankOfArrival 15 = .ok (.aload_n 0, 1) := by decide +kernel
theorem dX7_rankOfArrival_16 : decode cX7_rankOfArrival 16 = .ok (.getfield 58, 3) := by decide +kernel
theorem dX7_rankOfArrival_19 : decode cX7_rankOfArrival 19 = .ok (.iload 4, 2) := by decide +kernel
theorem dX7_rankOfArrival_21 : decode cX7_rankOfArrival 21 = .ok (.i2l, 1) := by decide +kernel
theorem dX7_rankOfArrival_22 : decode cX7_rankOfArrival 22 = .ok (.ladd, 1) := by decide +kernel
theorem dX7_rankOfArrival_23 : decode cX7_rankOfArrival 23 = .ok (.invokevirtual 107, 3) := by decide +kernel
theorem dX7_rankOfArrival_26 : decode cX7_rankOfArrival 26 = .ok (.aload_n 0, 1) := by decide +kernel
theorem dX7_rankOfArrival_27 : decode cX7_rankOfArrival 27 = .ok (.iload 5, 2) := by decide +kernel
theorem dX7_rankOfArrival_29 : decode cX7_rankOfArrival 29 = .ok (.iload_n 1, 1) := by decide +kernel
theorem dX7_rankOfArrival_30 : decode cX7_rankOfArrival 30 = .ok (.aload_n 0, 1) := by decide +kernel
theorem dX7_rankOfArrival_31 : decode cX7_rankOfArrival 31 = .ok (.getfield 58, 3) := by decide +kernel
theorem dX7_rankOfArrival_34 : decode cX7_rankOfArrival 34 = .ok (.invokevirtual 113, 3) := by decide +kernel
theorem dX7_rankOfArrival_37 : decode cX7_rankOfArrival 37 = .ok (.ifCond .ne 5, 3) := by decide +kernel
theorem dX7_rankOfArrival_40 : decode cX7_rankOfArrival 40 = .ok (.lconst 0, 1) := by decide +kernel
theorem dX7_rankOfArrival_41 : decode cX7_rankOfArrival 41 = .ok (.lreturn, 1) := by decide +kernel
theorem dX7_rankOfArrival_42 : decode cX7_rankOfArrival 42 = .ok (.aload_n 0, 1) := by decide +kernel
theorem dX7_rankOfArrival_43 : decode cX7_rankOfArrival 43 = .ok (.getfield 49, 3) := by decide +kernel
theorem dX7_rankOfArrival_46 : decode cX7_rankOfArrival 46 = .ok (.aload_n 0, 1) := by decide +kernel
theorem dX7_rankOfArrival_47 : decode cX7_rankOfArrival 47 = .ok (.getfield 18, 3) := by decide +kernel
theorem dX7_rankOfArrival_50 : decode cX7_rankOfArrival 50 = .ok (.aload_n 0, 1) := by decide +kernel
theorem dX7_rankOfArrival_51 : decode cX7_rankOfArrival 51 = .ok (.getfield 18, 3) := by decide +kernel
theorem dX7_rankOfArrival_54 : decode cX7_rankOfArrival 54 = .ok (.getfield 117, 3) := by decide +kernel
theorem dX7_rankOfArrival_57 : decode cX7_rankOfArrival 57 = .ok (.iload 5, 2) := by decide +kernel
theorem dX7_rankOfArrival_59 : decode cX7_rankOfArrival 59 = .ok (.iaload, 1) := by decide +kernel
theorem dX7_rankOfArrival_60 : decode cX7_rankOfArrival 60 = .ok (.aload_n 0, 1) := by decide +kernel
theorem dX7_rankOfArrival_61 : decode cX7_rankOfArrival 61 = .ok (.getfield 18, 3) := by decide +kernel
theorem dX7_rankOfArrival_64 : decode cX7_rankOfArrival 64 = .ok (.getfield 121, 3) := by decide +kernel
theorem dX7_rankOfArrival_67 : decode cX7_rankOfArrival 67 = .ok (.iload 5, 2) := by decide +kernel
theorem dX7_rankOfArrival_69 : decode cX7_rankOfArrival 69 = .ok (.iaload, 1) := by decide +kernel
theorem dX7_rankOfArrival_70 : decode cX7_rankOfArrival 70 = .ok (.invokevirtual 124, 3) := by decide +kernel
theorem dX7_rankOfArrival_73 : decode cX7_rankOfArrival 73 = .ok (.lreturn, 1) := by decide +kernel
theorem dX7_leafFor_0 : decode cX7_leafFor 0 = .ok (.iload_n 1, 1) := by decide +kernel
theorem dX7_leafFor_1 : decode cX7_leafFor 1 = .ok (.ifCond .lt 21, 3) := by decide +kernel
theorem dX7_leafFor_4 : decode cX7_leafFor 4 = .ok (.iload_n 1, 1) := by decide +kernel
theorem dX7_leafFor_5 : decode cX7_leafFor 5 = .ok (.bipush 16, 2) := by decide +kernel
theorem dX7_leafFor_7 : decode cX7_leafFor 7 = .ok (.if_icmp .ge 15, 3) := by decide +kernel
theorem dX7_leafFor_10 : decode cX7_leafFor 10 = .ok (.aload_n 0, 1) := by decide +kernel
theorem dX7_leafFor_11 : decode cX7_leafFor 11 = .ok (.getfield 38, 3) := by decide +kernel
theorem dX7_leafFor_14 : decode cX7_leafFor 14 = .ok (.getfield 128, 3) := by decide +kernel
theorem dX7_leafFor_17 : decode cX7_leafFor 17 = .ok (.iload_n 1, 1) := by decide +kernel
theorem dX7_leafFor_18 : decode cX7_leafFor 18 = .ok (.iaload, 1) := by decide +kernel
theorem dX7_leafFor_19 : decode cX7_leafFor 19 = .ok (.goto 4, 3) := by decide +kernel
theorem dX7_leafFor_22 : decode cX7_leafFor 22 = .ok (.iconst 0, 1) := by decide +kernel
theorem dX7_leafFor_23 : decode cX7_leafFor 23 = .ok (.istore_n 2, 1) := by decide +kernel
theorem dX7_leafFor_24 : decode cX7_leafFor 24 = .ok (.aload_n 0, 1) := by decide +kernel
theorem dX7_leafFor_25 : decode cX7_leafFor 25 = .ok (.getfield 18, 3) := by decide +kernel
theorem dX7_leafFor_28 : decode cX7_leafFor 28 = .ok (.iload_n 2, 1) := by decide +kernel
theorem dX7_leafFor_29 : decode cX7_leafFor 29 = .ok (.invokevirtual 131, 3) := by decide +kernel
theorem dX7_leafFor_32 : decode cX7_leafFor 32 = .ok (.ifCond .eq 7, 3) := by decide +kernel
theorem dX7_leafFor_35 : decode cX7_leafFor 35 = .ok (.iload_n 2, 1) := by decide +kernel
theorem dX7_leafFor_36 : decode cX7_leafFor 36 = .ok (.goto 4, 3) := by decide +kernel
theorem dX7_leafFor_39 : decode cX7_leafFor 39 = .ok (.iconst 0, 1) := by decide +kernel
theorem dX7_leafFor_40 : decode cX7_leafFor 40 = .ok (.ireturn, 1) := by decide +kernel
theorem dX7_climb_0 : decode cX7_climb 0 = .ok (.aload_n 0, 1) := by decide +kernel
theorem dX7_climb_1 : decode cX7_climb 1 = .ok (.getfield 31, 3) := by decide +kernel
theorem dX7_climb_4 : decode cX7_climb 4 = .ok (.iload_n 3, 1) := by decide +kernel
theorem dX7_climb_5 : decode cX7_climb 5 = .ok (.invokevirtual 134, 3) := by decide +kernel
theorem dX7_climb_8 : decode cX7_climb 8 = .ok (.ifCond .ne 4, 3) := by decide +kernel
theorem dX7_climb_11 : decode cX7_climb 11 = .ok (.return_, 1) := by decide +kernel
theorem dX7_climb_12 : decode cX7_climb 12 = .ok (.aload_n 0, 1) := by decide +kernel
theorem dX7_climb_13 : decode cX7_climb 13 = .ok (.getfield 49, 3) := by decide +kernel
theorem dX7_climb_16 : decode cX7_climb 16 = .ok (.aload_n 0, 1) := by decide +kernel
theorem dX7_climb_17 : decode cX7_climb 17 = .ok (.getfield 31, 3) := by decide +kernel
theorem dX7_climb_20 : decode cX7_climb 20 = .ok (.getfield 137, 3) := by decide +kernel
theorem dX7_climb_23 : decode cX7_climb 23 = .ok (.iload_n 3, 1) := by decide +kernel
theorem dX7_climb_24 : decode cX7_climb 24 = .ok (.iaload, 1) := by decide +kernel
theorem dX7_climb_25 : decode cX7_climb 25 = .ok (.i2l, 1) := by decide +kernel
theorem dX7_climb_26 : decode cX7_climb 26 = .ok (.aload_n 0, 1) := by decide +kernel
theorem dX7_climb_27 : decode cX7_climb 27 = .ok (.getfield 31, 3) := by decide +kernel
theorem dX7_climb_30 : decode cX7_climb 30 = .ok (.getfield 140, 3) := by decide +kernel
theorem dX7_climb_33 : decode cX7_climb 33 = .ok (.iload_n 3, 1) := by decide +kernel
theorem dX7_climb_34 : decode cX7_climb 34 = .ok (.iaload, 1) := by decide +kernel
theorem dX7_climb_35 : decode cX7_climb 35 = .ok (.i2l, 1) := by decide +kernel
theorem dX7_climb_36 : decode cX7_climb 36 = .ok (.aload_n 0, 1) := by decide +kernel
theorem dX7_climb_37 : decode cX7_climb 37 = .ok (.getfield 31, 3) := by decide +kernel
theorem dX7_climb_40 : decode cX7_climb 40 = .ok (.getfield 143, 3) := by decide +kernel
theorem dX7_climb_43 : decode cX7_climb 43 = .ok (.iload_n 3, 1) := by decide +kernel
theorem dX7_climb_44 : decode cX7_climb 44 = .ok (.laload, 1) := by decide +kernel
theorem dX7_climb_45 : decode cX7_climb 45 = .ok (.invokevirtual 107, 3) := by decide +kernel
theorem dX7_climb_48 : decode cX7_climb 48 = .ok (.iload_n 1, 1) := by decide +kernel
theorem dX7_climb_49 : decode cX7_climb 49 = .ok (.istore 6, 2) := by decide +kernel
theorem dX7_climb_51 : decode cX7_climb 51 = .ok (.iload_n 2, 1) := by decide +kernel
theorem dX7_climb_52 : decode cX7_climb 52 = .ok (.istore 7, 2) := by decide +kernel
theorem dX7_climb_54 : decode cX7_climb 54 = .ok (.iconst 0, 1) := by decide +kernel
theorem dX7_climb_55 : decode cX7_climb 55 = .ok (.istore 8, 2) := by decide +kernel
theorem dX7_climb_57 : decode cX7_climb 57 = .ok (.iload 8, 2) := by decide +kernel
theorem dX7_climb_59 : decode cX7_climb 59 = .ok (.bipush 12, 2) := by decide +kernel
theorem dX7_climb_61 : decode cX7_climb 61 = .ok (.if_icmp .ge 88, 3) := by decide +kernel
theorem dX7_climb_64 : decode cX7_climb 64 = .ok (.aload_n 0, 1) := by decide +kernel
theorem dX7_climb_65 : decode cX7_climb 65 = .ok (.getfield 18, 3) := by decide +kernel
theorem dX7_climb_68 : decode cX7_climb 68 = .ok (.iload 6, 2) := by decide +kernel
theorem dX7_climb_70 : decode cX7_climb 70 = .ok (.invokevirtual 131, 3) := by decide +kernel
theorem dX7_climb_73 : decode cX7_climb 73 = .ok (.ifCond .eq 76, 3) := by decide +kernel
theorem dX7_climb_76 : decode cX7_climb 76 = .ok (.aload_n 0, 1) := by decide +kernel
theorem dX7_climb_77 : decode cX7_climb 77 = .ok (.iload 6, 2) := by decide +kernel
theorem dX7_climb_79 : decode cX7_climb 79 = .ok (.iload 7, 2) := by decide +kernel
theorem dX7_climb_81 : decode cX7_climb 81 = .ok (.iload_n 3, 1) := by decide +kernel
theorem dX7_climb_82 : decode cX7_climb 82 = .ok (.lload 4, 2) := by decide +kernel
theorem dX7_climb_84 : decode cX7_climb 84 = .ok (.invokevirtual 147, 3) := by decide +kernel
theorem dX7_climb_87 : decode cX7_climb 87 = .ok (.aload_n 0, 1) := by decide +kernel
theorem dX7_climb_88 : decode cX7_climb 88 = .ok (.iload 6, 2) := by decide +kernel
theorem dX7_climb_90 : decode cX7_climb 90 = .ok (.aload_n 0, 1) := by decide +kernel
theorem dX7_climb_91 : decode cX7_climb 91 = .ok (.getfield 31, 3) := by decide +kernel
theorem dX7_climb_94 : decode cX7_climb 94 = .ok (.getfield 140, 3) := by decide +kernel
theorem dX7_climb_97 : decode cX7_climb 97 = .ok (.iload_n 3, 1) := by decide +kernel
theorem dX7_climb_98 : decode cX7_climb 98 = .ok (.iaload, 1) := by decide +kernel
theorem dX7_climb_99 : decode cX7_climb 99 = .ok (.lload 4, 2) := by decide +kernel
theorem dX7_climb_101 : decode cX7_climb 101 = .ok (.invokevirtual 150, 3) := by decide +kernel
theorem dX7_climb_104 : decode cX7_climb 104 = .ok (.lstore 9, 2) := by decide +kernel
theorem dX7_climb_106 : decode cX7_climb 106 = .ok (.lload 9, 2) := by decide +kernel
theorem dX7_climb_108 : decode cX7_climb 108 = .ok (.lload 4, 2) := by decide +kernel
theorem dX7_climb_110 : decode cX7_climb 110 = .ok (.lcmp, 1) := by decide +kernel
theorem dX7_climb_111 : decode cX7_climb 111 = .ok (.ifCond .le 16, 3) := by decide +kernel
theorem dX7_climb_114 : decode cX7_climb 114 = .ok (.aload_n 0, 1) := by decide +kernel
theorem dX7_climb_115 : decode cX7_climb 115 = .ok (.getfield 45, 3) := by decide +kernel
theorem dX7_climb_118 : decode cX7_climb 118 = .ok (.iload 6, 2) := by decide +kernel
theorem dX7_climb_120 : decode cX7_climb 120 = .ok (.iload_n 3, 1) := by decide +kernel
theorem dX7_climb_121 : decode cX7_climb 121 = .ok (.lload 9, 2) := by decide +kernel
theorem dX7_climb_123 : decode cX7_climb 123 = .ok (.invokevirtual 154, 3) := by decide +kernel
theorem dX7_climb_126 : decode cX7_climb 126 = .ok (.return_, 1) := by decide +kernel
theorem dX7_climb_127 : decode cX7_climb 127 = .ok (.iload 6, 2) := by decide +kernel
theorem dX7_climb_129 : decode cX7_climb 129 = .ok (.istore 7, 2) := by decide +kernel
theorem dX7_climb_131 : decode cX7_climb 131 = .ok (.aload_n 0, 1) := by decide +kernel
theorem dX7_climb_132 : decode cX7_climb 132 = .ok (.getfield 18, 3) := by decide +kernel
theorem dX7_climb_135 : decode cX7_climb 135 = .ok (.getfield 157, 3) := by decide +kernel
theorem dX7_climb_138 : decode cX7_climb 138 = .ok (.iload 6, 2) := by decide +kernel
theorem dX7_climb_140 : decode cX7_climb 140 = .ok (.iaload, 1) := by decide +kernel
theorem dX7_climb_141 : decode cX7_climb 141 = .ok (.istore 6, 2) := by decide +kernel
theorem dX7_climb_143 : decode cX7_climb 143 = .ok (.iinc 8 1, 3) := by decide +kernel
theorem dX7_climb_146 : decode cX7_climb 146 = .ok (.goto (-89), 3) := by decide +kernel
theorem dX7_climb_149 : decode cX7_climb 149 = .ok (.return_, 1) := by decide +kernel
theorem dX7_enter_0 : decode cX7_enter 0 = .ok (.aload_n 0, 1) := by decide +kernel
theorem dX7_enter_1 : decode cX7_enter 1 = .ok (.getfield 18, 3) := by decide +kernel
theorem dX7_enter_4 : decode cX7_enter 4 = .ok (.iload_n 1, 1) := by decide +kernel
theorem dX7_enter_5 : decode cX7_enter 5 = .ok (.invokevirtual 90, 3) := by decide +kernel
theorem dX7_enter_8 : decode cX7_enter 8 = .ok (.ifCond .eq 15, 3) := by decide +kernel
theorem dX7_enter_11 : decode cX7_enter 11 = .ok (.aload_n 0, 1) := by decide +kernel
theorem dX7_enter_12 : decode cX7_enter 12 = .ok (.getfield 31, 3) := by decide +kernel
theorem dX7_enter_15 : decode cX7_enter 15 = .ok (.getfield 160, 3) := by decide +kernel
theorem dX7_enter_18 : decode cX7_enter 18 = .ok (.iload_n 3, 1) := by decide +kernel
theorem dX7_enter_19 : decode cX7_enter 19 = .ok (.iaload, 1) := by decide +kernel
theorem dX7_enter_20 : decode cX7_enter 20 = .ok (.goto 4, 3) := by decide +kernel
theorem dX7_enter_23 : decode cX7_enter 23 = .ok (.iload_n 2, 1) := by decide +kernel
theorem dX7_enter_24 : decode cX7_enter 24 = .ok (.istore 6, 2) := by decide +kernel
theorem dX7_enter_26 : decode cX7_enter 26 = .ok (.aload_n 0, 1) := by decide +kernel
theorem dX7_enter_27 : decode cX7_enter 27 = .ok (.iload_n 1, 1) := by decide +kernel
theorem dX7_enter_28 : decode cX7_enter 28 = .ok (.iload 6, 2) := by decide +kernel
theorem dX7_enter_30 : decode cX7_enter 30 = .ok (.lload 4, 2) := by decide +kernel
theorem dX7_enter_32 : decode cX7_enter 32 = .ok (.invokevirtual 113, 3) := by decide +kernel
theorem dX7_enter_35 : decode cX7_enter 35 = .ok (.ifCond .ne 4, 3) := by decide +kernel
theorem dX7_enter_38 : decode cX7_enter 38 = .ok (.return_, 1) := by decide +kernel
theorem dX7_enter_39 : decode cX7_enter 39 = .ok (.aload_n 0, 1) := by decide +kernel
theorem dX7_enter_40 : decode cX7_enter 40 = .ok (.getfield 18, 3) := by decide +kernel
theorem dX7_enter_43 : decode cX7_enter 43 = .ok (.getfield 121, 3) := by decide +kernel
theorem dX7_enter_46 : decode cX7_enter 46 = .ok (.iload_n 1, 1) := by decide +kernel
theorem dX7_enter_47 : decode cX7_enter 47 = .ok (.iaload, 1) := by decide +kernel
theorem dX7_enter_48 : decode cX7_enter 48 = .ok (.istore 7, 2) := by decide +kernel
theorem dX7_enter_50 : decode cX7_enter 50 = .ok (.aload_n 0, 1) := by decide +kernel
theorem dX7_enter_51 : decode cX7_enter 51 = .ok (.getfield 18, 3) := by decide +kernel
theorem dX7_enter_54 : decode cX7_enter 54 = .ok (.getfield 163, 3) := by decide +kernel
theorem dX7_enter_57 : decode cX7_enter 57 = .ok (.iload_n 1, 1) := by decide +kernel
theorem dX7_enter_58 : decode cX7_enter 58 = .ok (.iaload, 1) := by decide +kernel
theorem dX7_enter_59 : decode cX7_enter 59 = .ok (.istore 8, 2) := by decide +kernel
theorem dX7_enter_61 : decode cX7_enter 61 = .ok (.aload_n 0, 1) := by decide +kernel
theorem dX7_enter_62 : decode cX7_enter 62 = .ok (.getfield 49, 3) := by decide +kernel
theorem dX7_enter_65 : decode cX7_enter 65 = .ok (.aload_n 0, 1) := by decide +kernel
theorem dX7_enter_66 : decode cX7_enter 66 = .ok (.getfield 18, 3) := by decide +kernel
theorem dX7_enter_69 : decode cX7_enter 69 = .ok (.aload_n 0, 1) := by decide +kernel
theorem dX7_enter_70 : decode cX7_enter 70 = .ok (.getfield 18, 3) := by decide +kernel
theorem dX7_enter_73 : decode cX7_enter 73 = .ok (.getfield 117, 3) := by decide +kernel
theorem dX7_enter_76 : decode cX7_enter 76 = .ok (.iload_n 1, 1) := by decide +kernel
theorem dX7_enter_77 : decode cX7_enter 77 = .ok (.iaload, 1) := by decide +kernel
theorem dX7_enter_78 : decode cX7_enter 78 = .ok (.iload 7, 2) := by decide +kernel
theorem dX7_enter_80 : decode cX7_enter 80 = .ok (.invokevirtual 124, 3) := by decide +kernel
theorem dX7_enter_83 : decode cX7_enter 83 = .ok (.lstore 9, 2) := by decide +kernel
theorem dX7_enter_85 : decode cX7_enter 85 = .ok (.iload 7, 2) := by decide +kernel
theorem dX7_enter_87 : decode cX7_enter 87 = .ok (.iload 8, 2) := by decide +kernel
theorem dX7_enter_89 : decode cX7_enter 89 = .ok (.if_icmp .ge 39, 3) := by decide +kernel
theorem dX7_enter_92 : decode cX7_enter 92 = .ok (.aload_n 0, 1) := by decide +kernel
theorem dX7_enter_93 : decode cX7_enter 93 = .ok (.getfield 49, 3) := by decide +kernel
theorem dX7_enter_96 : decode cX7_enter 96 = .ok (.lload 9, 2) := by decide +kernel
theorem dX7_enter_98 : decode cX7_enter 98 = .ok (.invokevirtual 166, 3) := by decide +kernel
theorem dX7_enter_101 : decode cX7_enter 101 = .ok (.aload_n 0, 1) := by decide +kernel
theorem dX7_enter_102 : decode cX7_enter 102 = .ok (.getfield 24, 3) := by decide +kernel
theorem dX7_enter_105 : decode cX7_enter 105 = .ok (.iload_n 1, 1) := by decide +kernel
theorem dX7_enter_106 : decode cX7_enter 106 = .ok (.aaload, 1) := by decide +kernel
theorem dX7_enter_107 : decode cX7_enter 107 = .ok (.getfield 170, 3) := by decide +kernel
theorem dX7_enter_110 : decode cX7_enter 110 = .ok (.iload 6, 2) := by decide +kernel
theorem dX7_enter_112 : decode cX7_enter 112 = .ok (.aload_n 0, 1) := by decide +kernel
theorem dX7_enter_113 : decode cX7_enter 113 = .ok (.getfield 49, 3) := by decide +kernel
theorem dX7_enter_116 : decode cX7_enter 116 = .ok (.aload_n 0, 1) := by decide +kernel
theorem dX7_enter_117 : decode cX7_enter 117 = .ok (.getfield 18, 3) := by decide +kernel
theorem dX7_enter_120 : decode cX7_enter 120 = .ok (.iload 7, 2) := by decide +kernel
theorem dX7_enter_122 : decode cX7_enter 122 = .ok (.iload 8, 2) := by decide +kernel
theorem dX7_enter_124 : decode cX7_enter 124 = .ok (.invokevirtual 124, 3) := by decide +kernel
theorem dX7_enter_127 : decode cX7_enter 127 = .ok (.lastore, 1) := by decide +kernel
theorem dX7_enter_128 : decode cX7_enter 128 = .ok (.aload_n 0, 1) := by decide +kernel
theorem dX7_enter_129 : decode cX7_enter 129 = .ok (.getfield 18, 3) := by decide +kernel
theorem dX7_enter_132 : decode cX7_enter 132 = .ok (.getfield 173, 3) := by decide +kernel
theorem dX7_enter_135 : decode cX7_enter 135 = .ok (.iload_n 1, 1) := by decide +kernel
theorem dX7_enter_136 : decode cX7_enter 136 = .ok (.iaload, 1) := by decide +kernel
theorem dX7_enter_137 : decode cX7_enter 137 = .ok (.istore 11, 2) := by decide +kernel
theorem dX7_enter_139 : decode cX7_enter 139 = .ok (.iload 11, 2) := by decide +kernel
theorem dX7_enter_141 : decode cX7_enter 141 = .ok (.iconst 2, 1) := by decide +kernel
theorem dX7_enter_142 : decode cX7_enter 142 = .ok (.if_icmp .ne 15, 3) := by decide +kernel
theorem dX7_enter_145 : decode cX7_enter 145 = .ok (.aload_n 0, 1) := by decide +kernel
theorem dX7_enter_146 : decode cX7_enter 146 = .ok (.getfield 31, 3) := by decide +kernel
theorem dX7_enter_149 : decode cX7_enter 149 = .ok (.getfield 140, 3) := by decide +kernel
theorem dX7_enter_152 : decode cX7_enter 152 = .ok (.iload_n 3, 1) := by decide +kernel
theorem dX7_enter_153 : decode cX7_enter 153 = .ok (.iaload, 1) := by decide +kernel
theorem dX7_enter_154 : decode cX7_enter 154 = .ok (.goto 15, 3) := by decide +kernel
theorem dX7_enter_157 : decode cX7_enter 157 = .ok (.iload 11, 2) := by decide +kernel
theorem dX7_enter_159 : decode cX7_enter 159 = .ok (.iconst 3, 1) := by decide +kernel
theorem dX7_enter_160 : decode cX7_enter 160 = .ok (.if_icmp .ne 8, 3) := by decide +kernel
theorem dX7_enter_163 : decode cX7_enter 163 = .ok (.iload 6, 2) := by decide +kernel
theorem dX7_enter_165 : decode cX7_enter 165 = .ok (.goto 4, 3) := by decide +kernel
theorem dX7_enter_168 : decode cX7_enter 168 = .ok (.iconst 0, 1) := by decide +kernel
theorem dX7_enter_169 : decode cX7_enter 169 = .ok (.istore 12, 2) := by decide +kernel
theorem dX7_enter_171 : decode cX7_enter 171 = .ok (.aload_n 0, 1) := by decide +kernel
theorem dX7_enter_172 : decode cX7_enter 172 = .ok (.getfield 24, 3) := by decide +kernel
theorem dX7_enter_175 : decode cX7_enter 175 = .ok (.iload_n 1, 1) := by decide +kernel
theorem dX7_enter_176 : decode cX7_enter 176 = .ok (.aaload, 1) := by decide +kernel
theorem dX7_enter_177 : decode cX7_enter 177 = .ok (.iload_n 2, 1) := by decide +kernel
theorem dX7_enter_178 : decode cX7_enter 178 = .ok (.lload 9, 2) := by decide +kernel
theorem dX7_enter_180 : decode cX7_enter 180 = .ok (.iload 12, 2) := by decide +kernel
theorem dX7_enter_182 : decode cX7_enter 182 = .ok (.iload 11, 2) := by decide +kernel
theorem dX7_enter_184 : decode cX7_enter 184 = .ok (.iconst 1, 1) := by decide +kernel
theorem dX7_enter_185 : decode cX7_enter 185 = .ok (.if_icmp .ne 7, 3) := by decide +kernel
theorem dX7_enter_188 : decode cX7_enter 188 = .ok (.iconst 1, 1) := by decide +kernel
theorem dX7_enter_189 : decode cX7_enter 189 = .ok (.goto 4, 3) := by decide +kernel
theorem dX7_enter_192 : decode cX7_enter 192 = .ok (.iconst 0, 1) := by decide +kernel
theorem dX7_enter_193 : decode cX7_enter 193 = .ok (.invokevirtual 176, 3) := by decide +kernel
theorem dX7_enter_196 : decode cX7_enter 196 = .ok (.return_, 1) := by decide +kernel
theorem dX7_lookAround_0 : decode cX7_lookAround 0 = .ok (.aload_n 0, 1) := by decide +kernel
theorem dX7_lookAround_1 : decode cX7_lookAround 1 = .ok (.getfield 18, 3) := by decide +kernel
theorem dX7_lookAround_4 : decode cX7_lookAround 4 = .ok (.iload_n 1, 1) := by decide +kernel
theorem dX7_lookAround_5 : decode cX7_lookAround 5 = .ok (.iload_n 2, 1) := by decide +kernel
theorem dX7_lookAround_6 : decode cX7_lookAround 6 = .ok (.invokevirtual 180, 3) := by decide +kernel
theorem dX7_lookAround_9 : decode cX7_lookAround 9 = .ok (.ifCond .ne 5, 3) := by decide +kernel
theorem dX7_lookAround_12 : decode cX7_lookAround 12 = .ok (.iconst 0, 1) := by decide +kernel
theorem dX7_lookAround_13 : decode cX7_lookAround 13 = .ok (.ireturn, 1) := by decide +kernel
theorem dX7_lookAround_14 : decode cX7_lookAround 14 = .ok (.aload_n 0, 1) := by decide +kernel
theorem dX7_lookAround_15 : decode cX7_lookAround 15 = .ok (.getfield 24, 3) := by decide +kernel
theorem dX7_lookAround_18 : decode cX7_lookAround 18 = .ok (.iload_n 1, 1) := by decide +kernel
theorem dX7_lookAround_19 : decode cX7_lookAround 19 = .ok (.aaload, 1) := by decide +kernel
theorem dX7_lookAround_20 : decode cX7_lookAround 20 = .ok (.astore 5, 2) := by decide +kernel
theorem dX7_lookAround_22 : decode cX7_lookAround 22 = .ok (.aload_n 0, 1) := by decide +kernel
theorem dX7_lookAround_23 : decode cX7_lookAround 23 = .ok (.getfield 18, 3) := by decide +kernel
theorem dX7_lookAround_26 : decode cX7_lookAround 26 = .ok (.iload_n 1, 1) := by decide +kernel
theorem dX7_lookAround_27 : decode cX7_lookAround 27 = .ok (.invokevirtual 90, 3) := by decide +kernel
theorem dX7_lookAround_30 : decode cX7_lookAround 30 = .ok (.ifCond .eq 15, 3) := by decide +kernel
theorem dX7_lookAround_33 : decode cX7_lookAround 33 = .ok (.aload_n 0, 1) := by decide +kernel
theorem dX7_lookAround_34 : decode cX7_lookAround 34 = .ok (.getfield 38, 3) := by decide +kernel
theorem dX7_lookAround_37 : decode cX7_lookAround 37 = .ok (.getfield 184, 3) := by decide +kernel
theorem dX7_lookAround_40 : decode cX7_lookAround 40 = .ok (.iload_n 2, 1) := by decide +kernel
theorem dX7_lookAround_41 : decode cX7_lookAround 41 = .ok (.iaload, 1) := by decide +kernel
theorem dX7_lookAround_42 : decode cX7_lookAround 42 = .ok (.goto 12, 3) := by decide +kernel
theorem dX7_lookAround_45 : decode cX7_lookAround 45 = .ok (.aload_n 0, 1) := by decide +kernel
theorem dX7_lookAround_46 : decode cX7_lookAround 46 = .ok (.getfield 24, 3) := by decide +kernel
theorem dX7_lookAround_49 : decode cX7_lookAround 49 = .ok (.iload_n 2, 1) := by decide +kernel
theorem dX7_lookAround_50 : decode cX7_lookAround 50 = .ok (.aaload, 1) := by decide +kernel
theorem dX7_lookAround_51 : decode cX7_lookAround 51 = .ok (.getfield 187, 3) := by decide +kernel
theorem dX7_lookAround_54 : decode cX7_lookAround 54 = .ok (.istore 6, 2) := by decide +kernel
theorem dX7_lookAround_56 : decode cX7_lookAround 56 = .ok (.aload_n 0, 1) := by decide +kernel
theorem dX7_lookAround_57 : decode cX7_lookAround 57 = .ok (.getfield 49, 3) := by decide +kernel
theorem dX7_lookAround_60 : decode cX7_lookAround 60 = .ok (.iload_n 2, 1) := by decide +kernel
theorem dX7_lookAround_61 : decode cX7_lookAround 61 = .ok (.i2l, 1) := by decide +kernel
theorem dX7_lookAround_62 : decode cX7_lookAround 62 = .ok (.iload 6, 2) := by decide +kernel
theorem dX7_lookAround_64 : decode cX7_lookAround 64 = .ok (.i2l, 1) := by decide +kernel
theorem dX7_lookAround_65 : decode cX7_lookAround 65 = .ok (.aload 5, 2) := by decide +kernel
theorem dX7_lookAround_67 : decode cX7_lookAround 67 = .ok (.getfield 170, 3) := by decide +kernel
theorem dX7_lookAround_70 : decode cX7_lookAround 70 = .ok (.iload_n 2, 1) := by decide +kernel
theorem dX7_lookAround_71 : decode cX7_lookAround 71 = .ok (.laload, 1) := by decide +kernel
theorem dX7_lookAround_72 : decode cX7_lookAround 72 = .ok (.invokevirtual 189, 3) := by decide +kernel
theorem dX7_lookAround_75 : decode cX7_lookAround 75 = .ok (.aload_n 0, 1) := by decide +kernel
theorem dX7_lookAround_76 : decode cX7_lookAround 76 = .ok (.getfield 49, 3) := by decide +kernel
theorem dX7_lookAround_79 : decode cX7_lookAround 79 = .ok (.lload_n 3, 1) := by decide +kernel
theorem dX7_lookAround_80 : decode cX7_lookAround 80 = .ok (.aload 5, 2) := by decide +kernel
theorem dX7_lookAround_82 : decode cX7_lookAround 82 = .ok (.getfield 192, 3) := by decide +kernel
theorem dX7_lookAround_85 : decode cX7_lookAround 85 = .ok (.aload 5, 2) := by decide +kernel
theorem dX7_lookAround_87 : decode cX7_lookAround 87 = .ok (.getfield 94, 3) := by decide +kernel
theorem dX7_lookAround_90 : decode cX7_lookAround 90 = .ok (.i2l, 1) := by decide +kernel
theorem dX7_lookAround_91 : decode cX7_lookAround 91 = .ok (.invokevirtual 195, 3) := by decide +kernel
theorem dX7_lookAround_94 : decode cX7_lookAround 94 = .ok (.iconst 1, 1) := by decide +kernel
theorem dX7_lookAround_95 : decode cX7_lookAround 95 = .ok (.ireturn, 1) := by decide +kernel
theorem dX7_shape_0 : decode cX7_shape 0 = .ok (.aload_n 0, 1) := by decide +kernel
theorem dX7_shape_1 : decode cX7_shape 1 = .ok (.getfield 18, 3) := by decide +kernel
theorem dX7_shape_4 : decode cX7_shape 4 = .ok (.getfield 198, 3) := by decide +kernel
theorem dX7_shape_7 : decode cX7_shape 7 = .ok (.iload_n 1, 1) := by decide +kernel
theorem dX7_shape_8 : decode cX7_shape 8 = .ok (.iaload, 1) := by decide +kernel
theorem dX7_shape_9 : decode cX7_shape 9 = .ok (.istore 5, 2) := by decide +kernel
theorem dX7_shape_11 : decode cX7_shape 11 = .ok (.iload 5, 2) := by decide +kernel
theorem dX7_shape_13 : decode cX7_shape 13 = .ok (.iconst 1, 1) := by decide +kernel
theorem dX7_shape_14 : decode cX7_shape 14 = .ok (.if_icmp .ge 5, 3) := by decide +kernel
theorem dX7_shape_17 : decode cX7_shape 17 = .ok (.lload_n 3, 1) := by decide +kernel
theorem dX7_shape_18 : decode cX7_shape 18 = .ok (.lreturn, 1) := by decide +kernel
theorem dX7_shape_19 : decode cX7_shape 19 = .ok (.aload_n 0, 1) := by decide +kernel
theorem dX7_shape_20 : decode cX7_shape 20 = .ok (.getfield 24, 3) := by decide +kernel
theorem dX7_shape_23 : decode cX7_shape 23 = .ok (.iload_n 1, 1) := by decide +kernel
theorem dX7_shape_24 : decode cX7_shape 24 = .ok (.aaload, 1) := by decide +kernel
theorem dX7_shape_25 : decode cX7_shape 25 = .ok (.getfield 201, 3) := by decide +kernel
theorem dX7_shape_28 : decode cX7_shape 28 = .ok (.lstore 6, 2) := by decide +kernel
theorem dX7_shape_30 : decode cX7_shape 30 = .ok (.aload_n 0, 1) := by decide +kernel
theorem dX7_shape_31 : decode cX7_shape 31 = .ok (.getfield 24, 3) := by decide +kernel
theorem dX7_shape_34 : decode cX7_shape 34 = .ok (.iload_n 1, 1) := by decide +kernel
theorem dX7_shape_35 : decode cX7_shape 35 = .ok (.aaload, 1) := by decide +kernel
theorem dX7_shape_36 : decode cX7_shape 36 = .ok (.lload 6, 2) := by decide +kernel
theorem dX7_shape_38 : decode cX7_shape 38 = .ok (.lload_n 3, 1) := by decide +kernel
theorem dX7_shape_39 : decode cX7_shape 39 = .ok (.invokestatic 204, 3) := by decide +kernel
theorem dX7_shape_42 : decode cX7_shape 42 = .ok (.iload_n 2, 1) := by decide +kernel
theorem dX7_shape_43 : decode cX7_shape 43 = .ok (.iload 5, 2) := by decide +kernel
theorem dX7_shape_45 : decode cX7_shape 45 = .ok (.invokestatic 210, 3) := by decide +kernel
theorem dX7_shape_48 : decode cX7_shape 48 = .ok (.ladd, 1) := by decide +kernel
theorem dX7_shape_49 : decode cX7_shape 49 = .ok (.putfield 201, 3) := by decide +kernel
theorem dX7_shape_52 : decode cX7_shape 52 = .ok (.lload_n 3, 1) := by decide +kernel
theorem dX7_shape_53 : decode cX7_shape 53 = .ok (.lload 6, 2) := by decide +kernel
theorem dX7_shape_55 : decode cX7_shape 55 = .ok (.aload_n 0, 1) := by decide +kernel
theorem dX7_shape_56 : decode cX7_shape 56 = .ok (.getfield 18, 3) := by decide +kernel
theorem dX7_shape_59 : decode cX7_shape 59 = .ok (.getfield 214, 3) := by decide +kernel
theorem dX7_shape_62 : decode cX7_shape 62 = .ok (.iload_n 1, 1) := by decide +kernel
theorem dX7_shape_63 : decode cX7_shape 63 = .ok (.iaload, 1) := by decide +kernel
theorem dX7_shape_64 : decode cX7_shape 64 = .ok (.i2l, 1) := by decide +kernel
theorem dX7_shape_65 : decode cX7_shape 65 = .ok (.ldc2_w 217, 3) := by decide +kernel
theorem dX7_shape_68 : decode cX7_shape 68 = .ok (.lmul, 1) := by decide +kernel
theorem dX7_shape_69 : decode cX7_shape 69 = .ok (.iload 5, 2) := by decide +kernel
theorem dX7_shape_71 : decode cX7_shape 71 = .ok (.i2l, 1) := by decide +kernel
theorem dX7_shape_72 : decode cX7_shape 72 = .ok (.ldiv, 1) := by decide +kernel
theorem dX7_shape_73 : decode cX7_shape 73 = .ok (.lsub, 1) := by decide +kernel
theorem dX7_shape_74 : decode cX7_shape 74 = .ok (.invokestatic 204, 3) := by decide +kernel
theorem dX7_shape_77 : decode cX7_shape 77 = .ok (.lreturn, 1) := by decide +kernel
theorem dX7_unitsUp_0 : decode cX7_unitsUp 0 = .ok (.iload_n 1, 1) := by decide +kernel
theorem dX7_unitsUp_1 : decode cX7_unitsUp 1 = .ok (.iconst 1, 1) := by decide +kernel
theorem dX7_unitsUp_2 : decode cX7_unitsUp 2 = .ok (.if_icmp .ge 7, 3) := by decide +kernel
theorem dX7_unitsUp_5 : decode cX7_unitsUp 5 = .ok (.lconst 0, 1) := by decide +kernel
theorem dX7_unitsUp_6 : decode cX7_unitsUp 6 = .ok (.goto 17, 3) := by decide +kernel
theorem dX7_unitsUp_9 : decode cX7_unitsUp 9 = .ok (.iload_n 0, 1) := by decide +kernel
theorem dX7_unitsUp_10 : decode cX7_unitsUp 10 = .ok (.i2l, 1) := by decide +kernel
theorem dX7_unitsUp_11 : decode cX7_unitsUp 11 = .ok (.ldc2_w 217, 3) := by decide +kernel
theorem dX7_unitsUp_14 : decode cX7_unitsUp 14 = .ok (.lmul, 1) := by decide +kernel
theorem dX7_unitsUp_15 : decode cX7_unitsUp 15 = .ok (.iload_n 1, 1) := by decide +kernel
theorem dX7_unitsUp_16 : decode cX7_unitsUp 16 = .ok (.i2l, 1) := by decide +kernel
theorem dX7_unitsUp_17 : decode cX7_unitsUp 17 = .ok (.ladd, 1) := by decide +kernel
theorem dX7_unitsUp_18 : decode cX7_unitsUp 18 = .ok (.lconst 1, 1) := by decide +kernel
theorem dX7_unitsUp_19 : decode cX7_unitsUp 19 = .ok (.lsub, 1) := by decide +kernel
theorem dX7_unitsUp_20 : decode cX7_unitsUp 20 = .ok (.iload_n 1, 1) := by decide +kernel
theorem dX7_unitsUp_21 : decode cX7_unitsUp 21 = .ok (.i2l, 1) := by decide +kernel
theorem dX7_unitsUp_22 : decode cX7_unitsUp 22 = .ok (.ldiv, 1) := by decide +kernel
theorem dX7_unitsUp_23 : decode cX7_unitsUp 23 = .ok (.lreturn, 1) := by decide +kernel
theorem dX7_leave_0 : decode cX7_leave 0 = .ok (.iconst 0, 1) := by decide +kernel
theorem dX7_leave_1 : decode cX7_leave 1 = .ok (.istore_n 1, 1) := by decide +kernel
theorem dX7_leave_2 : decode cX7_leave 2 = .ok (.iconst 0, 1) := by decide +kernel
theorem dX7_leave_3 : decode cX7_leave 3 = .ok (.istore_n 2, 1) := by decide +kernel
theorem dX7_leave_4 : decode cX7_leave 4 = .ok (.iload_n 2, 1) := by decide +kernel
theorem dX7_leave_5 : decode cX7_leave 5 = .ok (.bipush 12, 2) := by decide +kernel
theorem dX7_leave_7 : decode cX7_leave 7 = .ok (.if_icmp .ge 49, 3) := by decide +kernel
theorem dX7_leave_10 : decode cX7_leave 10 = .ok (.aload_n 0, 1) := by decide +kernel
theorem dX7_leave_11 : decode cX7_leave 11 = .ok (.getfield 18, 3) := by decide +kernel
theorem dX7_leave_14 : decode cX7_leave 14 = .ok (.iload_n 1, 1) := by decide +kernel
theorem dX7_leave_15 : decode cX7_leave 15 = .ok (.invokevirtual 131, 3) := by decide +kernel
theorem dX7_leave_18 : decode cX7_leave 18 = .ok (.ifCond .eq 38, 3) := by decide +kernel
theorem dX7_leave_21 : decode cX7_leave 21 = .ok (.aload_n 0, 1) := by decide +kernel
theorem dX7_leave_22 : decode cX7_leave 22 = .ok (.getfield 24, 3) := by decide +kernel
theorem dX7_leave_25 : decode cX7_leave 25 = .ok (.iload_n 1, 1) := by decide +kernel
theorem dX7_leave_26 : decode cX7_leave 26 = .ok (.aaload, 1) := by decide +kernel
theorem dX7_leave_27 : decode cX7_leave 27 = .ok (.invokevirtual 219, 3) := by decide +kernel
theorem dX7_leave_30 : decode cX7_leave 30 = .ok (.istore_n 3, 1) := by decide +kernel
theorem dX7_leave_31 : decode cX7_leave 31 = .ok (.iload_n 3, 1) := by decide +kernel
theorem dX7_leave_32 : decode cX7_leave 32 = .ok (.ifCond .lt 14, 3) := by decide +kernel
theorem dX7_leave_35 : decode cX7_leave 35 = .ok (.aload_n 0, 1) := by decide +kernel
theorem dX7_leave_36 : decode cX7_leave 36 = .ok (.getfield 18, 3) := by decide +kernel
theorem dX7_leave_39 : decode cX7_leave 39 = .ok (.iload_n 1, 1) := by decide +kernel
theorem dX7_leave_40 : decode cX7_leave 40 = .ok (.invokevirtual 90, 3) := by decide +kernel
theorem dX7_leave_43 : decode cX7_leave 43 = .ok (.ifCond .eq 5, 3) := by decide +kernel
theorem dX7_leave_46 : decode cX7_leave 46 = .ok (.iload_n 3, 1) := by decide +kernel
theorem dX7_leave_47 : decode cX7_leave 47 = .ok (.ireturn, 1) := by decide +kernel
theorem dX7_leave_48 : decode cX7_leave 48 = .ok (.iload_n 3, 1) := by decide +kernel
theorem dX7_leave_49 : decode cX7_leave 49 = .ok (.istore_n 1, 1) := by decide +kernel
theorem dX7_leave_50 : decode cX7_leave 50 = .ok (.iinc 2 1, 3) := by decide +kernel
theorem dX7_leave_53 : decode cX7_leave 53 = .ok (.goto (-49), 3) := by decide +kernel
theorem dX7_leave_56 : decode cX7_leave 56 = .ok (.iconst (-1), 1) := by decide +kernel
theorem dX7_leave_57 : decode cX7_leave 57 = .ok (.ireturn, 1) := by decide +kernel
theorem dX7_depart_0 : decode cX7_depart 0 = .ok (.aload_n 0, 1) := by decide +kernel
theorem dX7_depart_1 : decode cX7_depart 1 = .ok (.getfield 31, 3) := by decide +kernel
theorem dX7_depart_4 : decode cX7_depart 4 = .ok (.iload_n 1, 1) := by decide +kernel
theorem dX7_depart_5 : decode cX7_depart 5 = .ok (.invokevirtual 134, 3) := by decide +kernel
theorem dX7_depart_8 : decode cX7_depart 8 = .ok (.ifCond .ne 4, 3) := by decide +kernel
theorem dX7_depart_11 : decode cX7_depart 11 = .ok (.return_, 1) := by decide +kernel
theorem dX7_depart_12 : decode cX7_depart 12 = .ok (.aload_n 0, 1) := by decide +kernel
theorem dX7_depart_13 : decode cX7_depart 13 = .ok (.getfield 31, 3) := by decide +kernel
theorem dX7_depart_16 : decode cX7_depart 16 = .ok (.getfield 222, 3) := by decide +kernel
theorem dX7_depart_19 : decode cX7_depart 19 = .ok (.iload_n 1, 1) := by decide +kernel
theorem dX7_depart_20 : decode cX7_depart 20 = .ok (.lload_n 2, 1) := by decide +kernel
theorem dX7_depart_21 : decode cX7_depart 21 = .ok (.lastore, 1) := by decide +kernel
theorem dX7_depart_22 : decode cX7_depart 22 = .ok (.lload_n 2, 1) := by decide +kernel
theorem dX7_depart_23 : decode cX7_depart 23 = .ok (.aload_n 0, 1) := by decide +kernel
theorem dX7_depart_24 : decode cX7_depart 24 = .ok (.getfield 31, 3) := by decide +kernel
theorem dX7_depart_27 : decode cX7_depart 27 = .ok (.getfield 225, 3) := by decide +kernel
theorem dX7_depart_30 : decode cX7_depart 30 = .ok (.iload_n 1, 1) := by decide +kernel
theorem dX7_depart_31 : decode cX7_depart 31 = .ok (.laload, 1) := by decide +kernel
theorem dX7_depart_32 : decode cX7_depart 32 = .ok (.lsub, 1) := by decide +kernel
theorem dX7_depart_33 : decode cX7_depart 33 = .ok (.lstore 4, 2) := by decide +kernel
theorem dX7_depart_35 : decode cX7_depart 35 = .ok (.lload_n 2, 1) := by decide +kernel
theorem dX7_depart_36 : decode cX7_depart 36 = .ok (.aload_n 0, 1) := by decide +kernel
theorem dX7_depart_37 : decode cX7_depart 37 = .ok (.getfield 31, 3) := by decide +kernel
theorem dX7_depart_40 : decode cX7_depart 40 = .ok (.getfield 143, 3) := by decide +kernel
theorem dX7_depart_43 : decode cX7_depart 43 = .ok (.iload_n 1, 1) := by decide +kernel
theorem dX7_depart_44 : decode cX7_depart 44 = .ok (.laload, 1) := by decide +kernel
theorem dX7_depart_45 : decode cX7_depart 45 = .ok (.lcmp, 1) := by decide +kernel
theorem dX7_depart_46 : decode cX7_depart 46 = .ok (.ifCond .le 7, 3) := by decide +kernel
theorem dX7_depart_49 : decode cX7_depart 49 = .ok (.iconst 1, 1) := by decide +kernel
theorem dX7_depart_50 : decode cX7_depart 50 = .ok (.goto 4, 3) := by decide +kernel
theorem dX7_depart_53 : decode cX7_depart 53 = .ok (.iconst 0, 1) := by decide +kernel
theorem dX7_depart_54 : decode cX7_depart 54 = .ok (.istore 6, 2) := by decide +kernel
theorem dX7_depart_56 : decode cX7_depart 56 = .ok (.aload_n 0, 1) := by decide +kernel
theorem dX7_depart_57 : decode cX7_depart 57 = .ok (.getfield 38, 3) := by decide +kernel
theorem dX7_depart_60 : decode cX7_depart 60 = .ok (.aload_n 0, 1) := by decide +kernel
theorem dX7_depart_61 : decode cX7_depart 61 = .ok (.getfield 31, 3) := by decide +kernel
theorem dX7_depart_64 : decode cX7_depart 64 = .ok (.getfield 160, 3) := by decide +kernel
theorem dX7_depart_67 : decode cX7_depart 67 = .ok (.iload_n 1, 1) := by decide +kernel
theorem dX7_depart_68 : decode cX7_depart 68 = .ok (.iaload, 1) := by decide +kernel
theorem dX7_depart_69 : decode cX7_depart 69 = .ok (.aload_n 0, 1) := by decide +kernel
theorem dX7_depart_70 : decode cX7_depart 70 = .ok (.getfield 31, 3) := by decide +kernel
theorem dX7_depart_73 : decode cX7_depart 73 = .ok (.getfield 140, 3) := by decide +kernel
theorem dX7_depart_76 : decode cX7_depart 76 = .ok (.iload_n 1, 1) := by decide +kernel
theorem dX7_depart_77 : decode cX7_depart 77 = .ok (.iaload, 1) := by decide +kernel
theorem dX7_depart_78 : decode cX7_depart 78 = .ok (.lload 4, 2) := by decide +kernel
theorem dX7_depart_80 : decode cX7_depart 80 = .ok (.iload 6, 2) := by decide +kernel
theorem dX7_depart_82 : decode cX7_depart 82 = .ok (.invokevirtual 228, 3) := by decide +kernel
theorem dX7_depart_85 : decode cX7_depart 85 = .ok (.return_, 1) := by decide +kernel
theorem dX7_send_0 : decode cX7_send 0 = .ok (.aload_n 0, 1) := by decide +kernel
theorem dX7_send_1 : decode cX7_send 1 = .ok (.invokevirtual 232, 3) := by decide +kernel
theorem dX7_send_4 : decode cX7_send 4 = .ok (.istore_n 1, 1) := by decide +kernel
theorem dX7_send_5 : decode cX7_send 5 = .ok (.aload_n 0, 1) := by decide +kernel
theorem dX7_send_6 : decode cX7_send 6 = .ok (.getfield 31, 3) := by decide +kernel
theorem dX7_send_9 : decode cX7_send 9 = .ok (.iload_n 1, 1) := by decide +kernel
theorem dX7_send_10 : decode cX7_send 10 = .ok (.invokevirtual 134, 3) := by decide +kernel
theorem dX7_send_13 : decode cX7_send 13 = .ok (.ifCond .eq 37, 3) := by decide +kernel
theorem dX7_send_16 : decode cX7_send 16 = .ok (.aload_n 0, 1) := by decide +kernel
theorem dX7_send_17 : decode cX7_send 17 = .ok (.getfield 58, 3) := by decide +kernel
theorem dX7_send_20 : decode cX7_send 20 = .ok (.aload_n 0, 1) := by decide +kernel
theorem dX7_send_21 : decode cX7_send 21 = .ok (.getfield 31, 3) := by decide +kernel
theorem dX7_send_24 : decode cX7_send 24 = .ok (.getfield 140, 3) := by decide +kernel
theorem dX7_send_27 : decode cX7_send 27 = .ok (.iload_n 1, 1) := by decide +kernel
theorem dX7_send_28 : decode cX7_send 28 = .ok (.iaload, 1) := by decide +kernel
theorem dX7_send_29 : decode cX7_send 29 = .ok (.aload_n 0, 1) := by decide +kernel
theorem dX7_send_30 : decode cX7_send 30 = .ok (.getfield 9, 3) := by decide +kernel
theorem dX7_send_33 : decode cX7_send 33 = .ok (.invokestatic 210, 3) := by decide +kernel
theorem dX7_send_36 : decode cX7_send 36 = .ok (.ladd, 1) := by decide +kernel
theorem dX7_send_37 : decode cX7_send 37 = .ok (.lstore_n 2, 1) := by decide +kernel
theorem dX7_send_38 : decode cX7_send 38 = .ok (.aload_n 0, 1) := by decide +kernel
theorem dX7_send_39 : decode cX7_send 39 = .ok (.iload_n 1, 1) := by decide +kernel
theorem dX7_send_40 : decode cX7_send 40 = .ok (.lload_n 2, 1) := by decide +kernel
theorem dX7_send_41 : decode cX7_send 41 = .ok (.invokevirtual 235, 3) := by decide +kernel
theorem dX7_send_44 : decode cX7_send 44 = .ok (.aload_n 0, 1) := by decide +kernel
theorem dX7_send_45 : decode cX7_send 45 = .ok (.lload_n 2, 1) := by decide +kernel
theorem dX7_send_46 : decode cX7_send 46 = .ok (.invokevirtual 239, 3) := by decide +kernel
theorem dX7_send_49 : decode cX7_send 49 = .ok (.pop, 1) := by decide +kernel
theorem dX7_send_50 : decode cX7_send 50 = .ok (.iload_n 1, 1) := by decide +kernel
theorem dX7_send_51 : decode cX7_send 51 = .ok (.ireturn, 1) := by decide +kernel
theorem dX7_passUntil_0 : decode cX7_passUntil 0 = .ok (.iconst 0, 1) := by decide +kernel
theorem dX7_passUntil_1 : decode cX7_passUntil 1 = .ok (.istore_n 3, 1) := by decide +kernel
theorem dX7_passUntil_2 : decode cX7_passUntil 2 = .ok (.aload_n 0, 1) := by decide +kernel
theorem dX7_passUntil_3 : decode cX7_passUntil 3 = .ok (.getfield 45, 3) := by decide +kernel
theorem dX7_passUntil_6 : decode cX7_passUntil 6 = .ok (.invokevirtual 243, 3) := by decide +kernel
theorem dX7_passUntil_9 : decode cX7_passUntil 9 = .ok (.istore 4, 2) := by decide +kernel
theorem dX7_passUntil_11 : decode cX7_passUntil 11 = .ok (.iload 4, 2) := by decide +kernel
theorem dX7_passUntil_13 : decode cX7_passUntil 13 = .ok (.ifCond .lt 117, 3) := by decide +kernel
theorem dX7_passUntil_16 : decode cX7_passUntil 16 = .ok (.aload_n 0, 1) := by decide +kernel
theorem dX7_passUntil_17 : decode cX7_passUntil 17 = .ok (.getfield 45, 3) := by decide +kernel
theorem dX7_passUntil_20 : decode cX7_passUntil 20 = .ok (.getfield 246, 3) := by decide +kernel
theorem dX7_passUntil_23 : decode cX7_passUntil 23 = .ok (.iload 4, 2) := by decide +kernel
theorem dX7_passUntil_25 : decode cX7_passUntil 25 = .ok (.laload, 1) := by decide +kernel
theorem dX7_passUntil_26 : decode cX7_passUntil 26 = .ok (.lload_n 1, 1) := by decide +kernel
theorem dX7_passUntil_27 : decode cX7_passUntil 27 = .ok (.lcmp, 1) := by decide +kernel
theorem dX7_passUntil_28 : decode cX7_passUntil 28 = .ok (.ifCond .gt 102, 3) := by decide +kernel
theorem dX7_passUntil_31 : decode cX7_passUntil 31 = .ok (.iload_n 3, 1) := by decide +kernel
theorem dX7_passUntil_32 : decode cX7_passUntil 32 = .ok (.sipush 768, 3) := by decide +kernel
theorem dX7_passUntil_35 : decode cX7_passUntil 35 = .ok (.if_icmp .ge 95, 3) := by decide +kernel
theorem dX7_passUntil_38 : decode cX7_passUntil 38 = .ok (.aload_n 0, 1) := by decide +kernel
theorem dX7_passUntil_39 : decode cX7_passUntil 39 = .ok (.getfield 45, 3) := by decide +kernel
theorem dX7_passUntil_42 : decode cX7_passUntil 42 = .ok (.getfield 249, 3) := by decide +kernel
theorem dX7_passUntil_45 : decode cX7_passUntil 45 = .ok (.iload 4, 2) := by decide +kernel
theorem dX7_passUntil_47 : decode cX7_passUntil 47 = .ok (.iaload, 1) := by decide +kernel
theorem dX7_passUntil_48 : decode cX7_passUntil 48 = .ok (.istore 5, 2) := by decide +kernel
theorem dX7_passUntil_50 : decode cX7_passUntil 50 = .ok (.aload_n 0, 1) := by decide +kernel
theorem dX7_passUntil_51 : decode cX7_passUntil 51 = .ok (.getfield 45, 3) := by decide +kernel
theorem dX7_passUntil_54 : decode cX7_passUntil 54 = .ok (.getfield 252, 3) := by decide +kernel
theorem dX7_passUntil_57 : decode cX7_passUntil 57 = .ok (.iload 4, 2) := by decide +kernel
theorem dX7_passUntil_59 : decode cX7_passUntil 59 = .ok (.iaload, 1) := by decide +kernel
theorem dX7_passUntil_60 : decode cX7_passUntil 60 = .ok (.istore 6, 2) := by decide +kernel
theorem dX7_passUntil_62 : decode cX7_passUntil 62 = .ok (.aload_n 0, 1) := by decide +kernel
theorem dX7_passUntil_63 : decode cX7_passUntil 63 = .ok (.getfield 45, 3) := by decide +kernel
theorem dX7_passUntil_66 : decode cX7_passUntil 66 = .ok (.getfield 246, 3) := by decide +kernel
theorem dX7_passUntil_69 : decode cX7_passUntil 69 = .ok (.iload 4, 2) := by decide +kernel
theorem dX7_passUntil_71 : decode cX7_passUntil 71 = .ok (.laload, 1) := by decide +kernel
theorem dX7_passUntil_72 : decode cX7_passUntil 72 = .ok (.lstore 7, 2) := by decide +kernel
theorem dX7_passUntil_74 : decode cX7_passUntil 74 = .ok (.aload_n 0, 1) := by decide +kernel
theorem dX7_passUntil_75 : decode cX7_passUntil 75 = .ok (.getfield 45, 3) := by decide +kernel
theorem dX7_passUntil_78 : decode cX7_passUntil 78 = .ok (.iload 4, 2) := by decide +kernel
theorem dX7_passUntil_80 : decode cX7_passUntil 80 = .ok (.invokevirtual 255, 3) := by decide +kernel
theorem dX7_passUntil_83 : decode cX7_passUntil 83 = .ok (.aload_n 0, 1) := by decide +kernel
theorem dX7_passUntil_84 : decode cX7_passUntil 84 = .ok (.getfield 18, 3) := by decide +kernel
theorem dX7_passUntil_87 : decode cX7_passUntil 87 = .ok (.iload 5, 2) := by decide +kernel
theorem dX7_passUntil_89 : decode cX7_passUntil 89 = .ok (.invokevirtual 131, 3) := by decide +kernel
theorem dX7_passUntil_92 : decode cX7_passUntil 92 = .ok (.ifCond .eq 23, 3) := by decide +kernel
theorem dX7_passUntil_95 : decode cX7_passUntil 95 = .ok (.aload_n 0, 1) := by decide +kernel
theorem dX7_passUntil_96 : decode cX7_passUntil 96 = .ok (.aload_n 0, 1) := by decide +kernel
theorem dX7_passUntil_97 : decode cX7_passUntil 97 = .ok (.getfield 18, 3) := by decide +kernel
theorem dX7_passUntil_100 : decode cX7_passUntil 100 = .ok (.getfield 157, 3) := by decide +kernel
theorem dX7_passUntil_103 : decode cX7_passUntil 103 = .ok (.iload 5, 2) := by decide +kernel
theorem dX7_passUntil_105 : decode cX7_passUntil 105 = .ok (.iaload, 1) := by decide +kernel
theorem dX7_passUntil_106 : decode cX7_passUntil 106 = .ok (.iload 5, 2) := by decide +kernel
theorem dX7_passUntil_108 : decode cX7_passUntil 108 = .ok (.iload 6, 2) := by decide +kernel
theorem dX7_passUntil_110 : decode cX7_passUntil 110 = .ok (.lload 7, 2) := by decide +kernel
theorem dX7_passUntil_112 : decode cX7_passUntil 112 = .ok (.invokevirtual 103, 3) := by decide +kernel
theorem dX7_passUntil_115 : decode cX7_passUntil 115 = .ok (.iinc 3 1, 3) := by decide +kernel
theorem dX7_passUntil_118 : decode cX7_passUntil 118 = .ok (.aload_n 0, 1) := by decide +kernel
theorem dX7_passUntil_119 : decode cX7_passUntil 119 = .ok (.getfield 45, 3) := by decide +kernel
theorem dX7_passUntil_122 : decode cX7_passUntil 122 = .ok (.invokevirtual 243, 3) := by decide +kernel
theorem dX7_passUntil_125 : decode cX7_passUntil 125 = .ok (.istore 4, 2) := by decide +kernel
theorem dX7_passUntil_127 : decode cX7_passUntil 127 = .ok (.goto (-116), 3) := by decide +kernel
theorem dX7_passUntil_130 : decode cX7_passUntil 130 = .ok (.aload_n 0, 1) := by decide +kernel
theorem dX7_passUntil_131 : decode cX7_passUntil 131 = .ok (.aload_n 0, 1) := by decide +kernel
theorem dX7_passUntil_132 : decode cX7_passUntil 132 = .ok (.getfield 58, 3) := by decide +kernel
theorem dX7_passUntil_135 : decode cX7_passUntil 135 = .ok (.lload_n 1, 1) := by decide +kernel
theorem dX7_passUntil_136 : decode cX7_passUntil 136 = .ok (.invokestatic 204, 3) := by decide +kernel
theorem dX7_passUntil_139 : decode cX7_passUntil 139 = .ok (.putfield 58, 3) := by decide +kernel
theorem dX7_passUntil_142 : decode cX7_passUntil 142 = .ok (.iload_n 3, 1) := by decide +kernel
theorem dX7_passUntil_143 : decode cX7_passUntil 143 = .ok (.ireturn, 1) := by decide +kernel
theorem dX8_init_0 : decode cX8_init 0 = .ok (.aload_n 0, 1) := by decide +kernel
theorem dX8_init_1 : decode cX8_init 1 = .ok (.invokespecial 3, 3) := by decide +kernel
theorem dX8_init_4 : decode cX8_init 4 = .ok (.aload_n 0, 1) := by decide +kernel
theorem dX8_init_5 : decode cX8_init 5 = .ok (.bipush 120, 2) := by decide +kernel
theorem dX8_init_7 : decode cX8_init 7 = .ok (.newarray .char, 2) := by decide +kernel
theorem dX8_init_9 : decode cX8_init 9 = .ok (.putfield 9, 3) := by decide +kernel
theorem dX8_init_12 : decode cX8_init 12 = .ok (.aload_n 0, 1) := by decide +kernel
theorem dX8_init_13 : decode cX8_init 13 = .ok (.iconst 3, 1) := by decide +kernel
theorem dX8_init_14 : decode cX8_init 14 = .ok (.newarray .int, 2) := by decide +kernel
theorem dX8_init_16 : decode cX8_init 16 = .ok (.dup, 1) := by decide +kernel
theorem dX8_init_17 : decode cX8_init 17 = .ok (.iconst 0, 1) := by decide +kernel
theorem dX8_init_18 : decode cX8_init 18 = .ok (.iconst (-1), 1) := by decide +kernel
theorem dX8_init_19 : decode cX8_init 19 = .ok (.iastore, 1) := by decide +kernel
theorem dX8_init_20 : decode cX8_init 20 = .ok (.dup, 1) := by decide +kernel
theorem dX8_init_21 : decode cX8_init 21 = .ok (.iconst 1, 1) := by decide +kernel
theorem dX8_init_22 : decode cX8_init 22 = .ok (.iconst (-1), 1) := by decide +kernel
theorem dX8_init_23 : decode cX8_init 23 = .ok (.iastore, 1) := by decide +kernel
theorem dX8_init_24 : decode cX8_init 24 = .ok (.dup, 1) := by decide +kernel
theorem dX8_init_25 : decode cX8_init 25 = .ok (.iconst 2, 1) := by decide +kernel
theorem dX8_init_26 : decode cX8_init 26 = .ok (.iconst (-1), 1) := by decide +kernel
theorem dX8_init_27 : decode cX8_init 27 = .ok (.iastore, 1) := by decide +kernel
theorem dX8_init_28 : decode cX8_init 28 = .ok (.putfield 13, 3) := by decide +kernel
theorem dX8_init_31 : decode cX8_init 31 = .ok (.aload_n 0, 1) := by decide +kernel
theorem dX8_init_32 : decode cX8_init 32 = .ok (.new 17, 3) := by decide +kernel
theorem dX8_init_35 : decode cX8_init 35 = .ok (.dup, 1) := by decide +kernel
theorem dX8_init_36 : decode cX8_init 36 = .ok (.invokespecial 19, 3) := by decide +kernel
theorem dX8_init_39 : decode cX8_init 39 = .ok (.putfield 20, 3) := by decide +kernel
theorem dX8_init_42 : decode cX8_init 42 = .ok (.aload_n 0, 1) := by decide +kernel
theorem dX8_init_43 : decode cX8_init 43 = .ok (.iconst 3, 1) := by decide +kernel
theorem dX8_init_44 : decode cX8_init 44 = .ok (.anewarray 24, 3) := by decide +kernel
theorem dX8_init_47 : decode cX8_init 47 = .ok (.putfield 26, 3) := by decide +kernel
theorem dX8_init_50 : decode cX8_init 50 = .ok (.new 30, 3) := by decide +kernel
theorem dX8_init_53 : decode cX8_init 53 = .ok (.dup, 1) := by decide +kernel
theorem dX8_init_54 : decode cX8_init 54 = .ok (.invokespecial 32, 3) := by decide +kernel
theorem dX8_init_57 : decode cX8_init 57 = .ok (.astore_n 2, 1) := by decide +kernel
theorem dX8_init_58 : decode cX8_init 58 = .ok (.aload_n 0, 1) := by decide +kernel
theorem dX8_init_59 : decode cX8_init 59 = .ok (.new 24, 3) := by decide +kernel
theorem dX8_init_62 : decode cX8_init 62 = .ok (.dup, 1) := by decide +kernel
theorem dX8_init_63 : decode cX8_init 63 = .ok (.aload_n 2, 1) := by decide +kernel
theorem dX8_init_64 : decode cX8_init 64 = .ok (.invokespecial 33, 3) := by decide +kernel
theorem dX8_init_67 : decode cX8_init 67 = .ok (.putfield 36, 3) := by decide +kernel
theorem dX8_init_70 : decode cX8_init 70 = .ok (.aload_n 0, 1) := by decide +kernel
theorem dX8_init_71 : decode cX8_init 71 = .ok (.new 24, 3) := by decide +kernel
theorem dX8_init_74 : decode cX8_init 74 = .ok (.dup, 1) := by decide +kernel
theorem dX8_init_75 : decode cX8_init 75 = .ok (.aload_n 2, 1) := by decide +kernel
theorem dX8_init_76 : decode cX8_init 76 = .ok (.invokespecial 33, 3) := by decide +kernel
theorem dX8_init_79 : decode cX8_init 79 = .ok (.putfield 40, 3) := by decide +kernel
theorem dX8_init_82 : decode cX8_init 82 = .ok (.iconst 0, 1) := by decide +kernel
theorem dX8_init_83 : decode cX8_init 83 = .ok (.istore_n 3, 1) := by decide +kernel
theorem dX8_init_84 : decode cX8_init 84 = .ok (.iload_n 3, 1) := by decide +kernel
theorem dX8_init_85 : decode cX8_init 85 = .ok (.aload_n 0, 1) := by decide +kernel
theorem dX8_init_86 : decode cX8_init 86 = .ok (.getfield 26, 3) := by decide +kernel
theorem dX8_init_89 : decode cX8_init 89 = .ok (.arraylength, 1) := by decide +kernel
theorem dX8_init_90 : decode cX8_init 90 = .ok (.if_icmp .ge 23, 3) := by decide +kernel
theorem dX8_init_93 : decode cX8_init 93 = .ok (.aload_n 0, 1) := by decide +kernel
theorem dX8_init_94 : decode cX8_init 94 = .ok (.getfield 26, 3) := by decide +kernel
theorem dX8_init_97 : decode cX8_init 97 = .ok (.iload_n 3, 1) := by decide +kernel
theorem dX8_init_98 : decode cX8_init 98 = .ok (.new 24, 3) := by decide +kernel
theorem dX8_init_101 : decode cX8_init 101 = .ok (.dup, 1) := by decide +kernel
theorem dX8_init_102 : decode cX8_init 102 = .ok (.aload_n 2, 1) := by decide +kernel
theorem dX8_init_103 : decode cX8_init 103 = .ok (.invokespecial 33, 3) := by decide +kernel
theorem dX8_init_106 : decode cX8_init 106 = .ok (.aastore, 1) := by decide +kernel
theorem dX8_init_107 : decode cX8_init 107 = .ok (.iinc 3 1, 3) := by decide +kernel
theorem dX8_init_110 : decode cX8_init 110 = .ok (.goto (-26), 3) := by decide +kernel
theorem dX8_init_113 : decode cX8_init 113 = .ok (.aload_n 0, 1) := by decide +kernel
theorem dX8_init_114 : decode cX8_init 114 = .ok (.getfield 36, 3) := by decide +kernel
theorem dX8_init_117 : decode cX8_init 117 = .ok (.iload_n 1, 1) := by decide +kernel
theorem dX8_init_118 : decode cX8_init 118 = .ok (.iconst 1, 1) := by decide +kernel
theorem dX8_init_119 : decode cX8_init 119 = .ok (.if_icmp .ge 7, 3) := by decide +kernel
theorem dX8_init_122 : decode cX8_init 122 = .ok (.iconst 1, 1) := by decide +kernel
theorem dX8_init_123 : decode cX8_init 123 = .ok (.goto 17, 3) := by decide +kernel
theorem dX8_init_126 : decode cX8_init 126 = .ok (.iload_n 1, 1) := by decide +kernel
theorem dX8_init_127 : decode cX8_init 127 = .ok (.sipush 9999, 3) := by decide +kernel
theorem dX8_init_130 : decode cX8_init 130 = .ok (.if_icmp .le 9, 3) := by decide +kernel
theorem dX8_init_133 : decode cX8_init 133 = .ok (.sipush 9999, 3) := by decide +kernel
theorem dX8_init_136 : decode cX8_init 136 = .ok (.goto 4, 3) := by decide +kernel
theorem dX8_init_139 : decode cX8_init 139 = .ok (.iload_n 1, 1) := by decide +kernel
theorem dX8_init_140 : decode cX8_init 140 = .ok (.putfield 43, 3) := by decide +kernel
theorem dX8_init_143 : decode cX8_init 143 = .ok (.aload_n 0, 1) := by decide +kernel
theorem dX8_init_144 : decode cX8_init 144 = .ok (.iconst 0, 1) := by decide +kernel
theorem dX8_init_145 : decode cX8_init 145 = .ok (.invokevirtual 47, 3) := by decide +kernel
theorem dX8_init_148 : decode cX8_init 148 = .ok (.return_, 1) := by decide +kernel
theorem dX8_type_0 : decode cX8_type 0 = .ok (.iload_n 1, 1) := by decide +kernel
theorem dX8_type_1 : decode cX8_type 1 = .ok (.bipush 32, 2) := by decide +kernel
theorem dX8_type_3 : decode cX8_type 3 = .ok (.if_icmp .lt 9, 3) := by decide +kernel
theorem dX8_type_6 : decode cX8_type 6 = .ok (.iload_n 1, 1) := by decide +kernel
theorem dX8_type_7 : decode cX8_type 7 = .ok (.bipush 126, 2) := by decide +kernel
theorem dX8_type_9 : decode cX8_type 9 = .ok (.if_icmp .le 13, 3) := by decide +kernel
theorem dX8_type_12 : decode cX8_type 12 = .ok (.new 51, 3) := by decide +kernel
theorem dX8_type_15 : decode cX8_type 15 = .ok (.dup, 1) := by decide +kernel
theorem dX8_type_16 : decode cX8_type 16 = .ok (.ldc 53, 2) := by decide +kernel
theorem dX8_type_18 : decode cX8_type 18 = .ok (.invokespecial 55, 3) := by decide +kernel
theorem dX8_type_21 : decode cX8_type 21 = .ok (.athrow, 1) := by decide +kernel
theorem dX8_type_22 : decode cX8_type 22 = .ok (.aload_n 0, 1) := by decide +kernel
theorem dX8_type_23 : decode cX8_type 23 = .ok (.getfield 58, 3) := by decide +kernel
theorem dX8_type_26 : decode cX8_type 26 = .ok (.ifCond .lt 15, 3) := by decide +kernel
theorem dX8_type_29 : decode cX8_type 29 = .ok (.aload_n 0, 1) := by decide +kernel
theorem dX8_type_30 : decode cX8_type 30 = .ok (.getfield 58, 3) := by decide +kernel
theorem dX8_type_33 : decode cX8_type 33 = .ok (.aload_n 0, 1) := by decide +kernel
theorem dX8_type_34 : decode cX8_type 34 = .ok (.getfield 9, 3) := by decide +kernel
theorem dX8_type_37 : decode cX8_type 37 = .ok (.arraylength, 1) := by decide +kernel
theorem dX8_type_38 : decode cX8_type 38 = .ok (.if_icmp .lt 13, 3) := by decide +kernel
theorem dX8_type_41 : decode cX8_type 41 = .ok (.new 61, 3) := by decide +kernel
theorem dX8_type_44 : decode cX8_type 44 = .ok (.dup, 1) := by decide +kernel
theorem dX8_type_45 : decode cX8_type 45 = .ok (.ldc 63, 2) := by decide +kernel
theorem dX8_type_47 : decode cX8_type 47 = .ok (.invokespecial 65, 3) := by decide +kernel
theorem dX8_type_50 : decode cX8_type 50 = .ok (.athrow, 1) := by decide +kernel
theorem dX8_type_51 : decode cX8_type 51 = .ok (.aload_n 0, 1) := by decide +kernel
theorem dX8_type_52 : decode cX8_type 52 = .ok (.getfield 9, 3) := by decide +kernel
theorem dX8_type_55 : decode cX8_type 55 = .ok (.aload_n 0, 1) := by decide +kernel
theorem dX8_type_56 : decode cX8_type 56 = .ok (.getfield 58, 3) := by decide +kernel
theorem dX8_type_59 : decode cX8_type 59 = .ok (.iload_n 1, 1) := by decide +kernel
theorem dX8_type_60 : decode cX8_type 60 = .ok (.i2c, 1) := by decide +kernel
theorem dX8_type_61 : decode cX8_type 61 = .ok (.castore, 1) := by decide +kernel
theorem dX8_type_62 : decode cX8_type 62 = .ok (.aload_n 0, 1) := by decide +kernel
theorem dX8_type_63 : decode cX8_type 63 = .ok (.dup, 1) := by decide +kernel
theorem dX8_type_64 : decode cX8_type 64 = .ok (.getfield 58, 3) := by decide +kernel
theorem dX8_type_67 : decode cX8_type 67 = .ok (.iconst 1, 1) := by decide +kernel
theorem dX8_type_68 : decode cX8_type 68 = .ok (.iadd, 1) := by decide +kernel
theorem dX8_type_69 : decode cX8_type 69 = .ok (.putfield 58, 3) := by decide +kernel
theorem dX8_type_72 : decode cX8_type 72 = .ok (.aload_n 0, 1) := by decide +kernel
theorem dX8_type_73 : decode cX8_type 73 = .ok (.getfield 58, 3) := by decide +kernel
theorem dX8_type_76 : decode cX8_type 76 = .ok (.ireturn, 1) := by decide +kernel
theorem dX8_clearText_0 : decode cX8_clearText 0 = .ok (.aload_n 0, 1) := by decide +kernel
theorem dX8_clearText_1 : decode cX8_clearText 1 = .ok (.getfield 58, 3) := by decide +kernel
theorem dX8_clearText_4 : decode cX8_clearText 4 = .ok (.istore_n 1, 1) := by decide +kernel
theorem dX8_clearText_5 : decode cX8_clearText 5 = .ok (.aload_n 0, 1) := by decide +kernel
theorem dX8_clearText_6 : decode cX8_clearText 6 = .ok (.iconst 0, 1) := by decide +kernel
theorem dX8_clearText_7 : decode cX8_clearText 7 = .ok (.putfield 58, 3) := by decide +kernel
theorem dX8_clearText_10 : decode cX8_clearText 10 = .ok (.iload_n 1, 1) := by decide +kernel
theorem dX8_clearText_11 : decode cX8_clearText 11 = .ok (.ireturn, 1) := by decide +kernel
theorem dX8_loadTree_0 : decode cX8_loadTree 0 = .ok (.aload_n 0, 1) := by decide +kernel
theorem dX8_loadTree_1 : decode cX8_loadTree 1 = .ok (.getfield 20, 3) := by decide +kernel
theorem dX8_loadTree_4 : decode cX8_loadTree 4 = .ok (.aload_n 0, 1) := by decide +kernel
theorem dX8_loadTree_5 : decode cX8_loadTree 5 = .ok (.getfield 9, 3) := by decide +kernel
theorem dX8_loadTree_8 : decode cX8_loadTree 8 = .ok (.aload_n 0, 1) := by decide +kernel
theorem dX8_loadTree_9 : decode cX8_loadTree 9 = .ok (.getfield 58, 3) := by decide +kernel
theorem dX8_loadTree_12 : decode cX8_loadTree 12 = .ok (.invokevirtual 66, 3) := by decide +kernel
theorem dX8_loadTree_15 : decode cX8_loadTree 15 = .ok (.aload_n 0, 1) := by decide +kernel
theorem dX8_loadTree_16 : decode cX8_loadTree 16 = .ok (.getfield 20, 3) := by decide +kernel
theorem dX8_loadTree_19 : decode cX8_loadTree 19 = .ok (.invokevirtual 70, 3) := by decide +kernel
theorem dX8_loadTree_22 : decode cX8_loadTree 22 = .ok (.istore_n 1, 1) := by decide +kernel
theorem dX8_loadTree_23 : decode cX8_loadTree 23 = .ok (.iconst 0, 1) := by decide +kernel
theorem dX8_loadTree_24 : decode cX8_loadTree 24 = .ok (.istore_n 2, 1) := by decide +kernel
theorem dX8_loadTree_25 : decode cX8_loadTree 25 = .ok (.iload_n 2, 1) := by decide +kernel
theorem dX8_loadTree_26 : decode cX8_loadTree 26 = .ok (.aload_n 0, 1) := by decide +kernel
theorem dX8_loadTree_27 : decode cX8_loadTree 27 = .ok (.getfield 13, 3) := by decide +kernel
theorem dX8_loadTree_30 : decode cX8_loadTree 30 = .ok (.arraylength, 1) := by decide +kernel
theorem dX8_loadTree_31 : decode cX8_loadTree 31 = .ok (.if_icmp .ge 31, 3) := by decide +kernel
theorem dX8_loadTree_34 : decode cX8_loadTree 34 = .ok (.aload_n 0, 1) := by decide +kernel
theorem dX8_loadTree_35 : decode cX8_loadTree 35 = .ok (.getfield 13, 3) := by decide +kernel
theorem dX8_loadTree_38 : decode cX8_loadTree 38 = .ok (.iload_n 2, 1) := by decide +kernel
theorem dX8_loadTree_39 : decode cX8_loadTree 39 = .ok (.iload_n 1, 1) := by decide +kernel
theorem dX8_loadTree_40 : decode cX8_loadTree 40 = .ok (.ifCond .eq 7, 3) := by decide +kernel
theorem dX8_loadTree_43 : decode cX8_loadTree 43 = .ok (.iconst (-1), 1) := by decide +kernel
theorem dX8_loadTree_44 : decode cX8_loadTree 44 = .ok (.goto 11, 3) := by decide +kernel
theorem dX8_loadTree_47 : decode cX8_loadTree 47 = .ok (.aload_n 0, 1) := by decide +kernel
theorem dX8_loadTree_48 : decode cX8_loadTree 48 = .ok (.getfield 20, 3) := by decide +kernel
theorem dX8_loadTree_51 : decode cX8_loadTree 51 = .ok (.iload_n 2, 1) := by decide +kernel
theorem dX8_loadTree_52 : decode cX8_loadTree 52 = .ok (.invokevirtual 74, 3) := by decide +kernel
theorem dX8_loadTree_55 : decode cX8_loadTree 55 = .ok (.iastore, 1) := by decide +kernel
theorem dX8_loadTree_56 : decode cX8_loadTree 56 = .ok (.iinc 2 1, 3) := by decide +kernel
theorem dX8_loadTree_59 : decode cX8_loadTree 59 = .ok (.goto (-34), 3) := by decide +kernel
theorem dX8_loadTree_62 : decode cX8_loadTree 62 = .ok (.iload_n 1, 1) := by decide +kernel
theorem dX8_loadTree_63 : decode cX8_loadTree 63 = .ok (.ifCond .ne 13, 3) := by decide +kernel
theorem dX8_loadTree_66 : decode cX8_loadTree 66 = .ok (.iconst (-1), 1) := by decide +kernel
theorem dX8_loadTree_67 : decode cX8_loadTree 67 = .ok (.aload_n 0, 1) := by decide +kernel
theorem dX8_loadTree_68 : decode cX8_loadTree 68 = .ok (.getfield 20, 3) := by decide +kernel
theorem dX8_loadTree_71 : decode cX8_loadTree 71 = .ok (.invokevirtual 78, 3) := by decide +kernel
theorem dX8_loadTree_74 : decode cX8_loadTree 74 = .ok (.isub, 1) := by decide +kernel
theorem dX8_loadTree_75 : decode cX8_loadTree 75 = .ok (.ireturn, 1) := by decide +kernel
theorem dX8_loadTree_76 : decode cX8_loadTree 76 = .ok (.aload_n 0, 1) := by decide +kernel
theorem dX8_loadTree_77 : decode cX8_loadTree 77 = .ok (.iconst 0, 1) := by decide +kernel
theorem dX8_loadTree_78 : decode cX8_loadTree 78 = .ok (.putfield 58, 3) := by decide +kernel
theorem dX8_loadTree_81 : decode cX8_loadTree 81 = .ok (.aload_n 0, 1) := by decide +kernel
theorem dX8_loadTree_82 : decode cX8_loadTree 82 = .ok (.getfield 36, 3) := by decide +kernel
theorem dX8_loadTree_85 : decode cX8_loadTree 85 = .ok (.aload_n 0, 1) := by decide +kernel
theorem dX8_loadTree_86 : decode cX8_loadTree 86 = .ok (.getfield 20, 3) := by decide +kernel
theorem dX8_loadTree_89 : decode cX8_loadTree 89 = .ok (.getfield 82, 3) := by decide +kernel
theorem dX8_loadTree_92 : decode cX8_loadTree 92 = .ok (.invokevirtual 86, 3) := by decide +kernel
theorem dX8_loadTree_95 : decode cX8_loadTree 95 = .ok (.aload_n 0, 1) := by decide +kernel
theorem dX8_loadTree_96 : decode cX8_loadTree 96 = .ok (.getfield 36, 3) := by decide +kernel
theorem dX8_loadTree_99 : decode cX8_loadTree 99 = .ok (.getfield 90, 3) := by decide +kernel
theorem dX8_loadTree_102 : decode cX8_loadTree 102 = .ok (.getfield 91, 3) := by decide +kernel
theorem dX8_loadTree_105 : decode cX8_loadTree 105 = .ok (.ireturn, 1) := by decide +kernel
theorem dX8_loadTemplate_0 : decode cX8_loadTemplate 0 = .ok (.iload_n 1, 1) := by decide +kernel
theorem dX8_loadTemplate_1 : decode cX8_loadTemplate 1 = .ok (.ifCond .lt 8, 3) := by decide +kernel
theorem dX8_loadTemplate_4 : decode cX8_loadTemplate 4 = .ok (.iload_n 1, 1) := by decide +kernel
theorem dX8_loadTemplate_5 : decode cX8_loadTemplate 5 = .ok (.iconst 5, 1) := by decide +kernel
theorem dX8_loadTemplate_6 : decode cX8_loadTemplate 6 = .ok (.if_icmp .le 13, 3) := by decide +kernel
theorem dX8_loadTemplate_9 : decode cX8_loadTemplate 9 = .ok (.new 51, 3) := by decide +kernel
theorem dX8_loadTemplate_12 : decode cX8_loadTemplate 12 = .ok (.dup, 1) := by decide +kernel
theorem dX8_loadTemplate_13 : decode cX8_loadTemplate 13 = .ok (.ldc 96, 2) := by decide +kernel
theorem dX8_loadTemplate_15 : decode cX8_loadTemplate 15 = .ok (.invokespecial 55, 3) := by decide +kernel
theorem dX8_loadTemplate_18 : decode cX8_loadTemplate 18 = .ok (.athrow, 1) := by decide +kernel
theorem dX8_loadTemplate_19 : decode cX8_loadTemplate 19 = .ok (.aload_n 0, 1) := by decide +kernel
theorem dX8_loadTemplate_20 : decode cX8_loadTemplate 20 = .ok (.iload_n 1, 1) := by decide +kernel
theorem dX8_loadTemplate_21 : decode cX8_loadTemplate 21 = .ok (.invokevirtual 47, 3) := by decide +kernel
theorem dX8_loadTemplate_24 : decode cX8_loadTemplate 24 = .ok (.aload_n 0, 1) := by decide +kernel
theorem dX8_loadTemplate_25 : decode cX8_loadTemplate 25 = .ok (.getfield 36, 3) := by decide +kernel
theorem dX8_loadTemplate_28 : decode cX8_loadTemplate 28 = .ok (.getfield 90, 3) := by decide +kernel
theorem dX8_loadTemplate_31 : decode cX8_loadTemplate 31 = .ok (.getfield 91, 3) := by decide +kernel
theorem dX8_loadTemplate_34 : decode cX8_loadTemplate 34 = .ok (.ireturn, 1) := by decide +kernel
theorem dX8_errorPosition_0 : decode cX8_errorPosition 0 = .ok (.iload_n 1, 1) := by decide +kernel
theorem dX8_errorPosition_1 : decode cX8_errorPosition 1 = .ok (.ifCond .ge 13, 3) := by decide +kernel
theorem dX8_errorPosition_4 : decode cX8_errorPosition 4 = .ok (.new 98, 3) := by decide +kernel
theorem dX8_errorPosition_7 : decode cX8_errorPosition 7 = .ok (.dup, 1) := by decide +kernel
theorem dX8_errorPosition_8 : decode cX8_errorPosition 8 = .ok (.ldc 100, 2) := by decide +kernel
theorem dX8_errorPosition_10 : decode cX8_errorPosition 10 = .ok (.invokespecial 102, 3) := by decide +kernel
theorem dX8_errorPosition_13 : decode cX8_errorPosition 13 = .ok (.athrow, 1) := by decide +kernel
theorem dX8_errorPosition_14 : decode cX8_errorPosition 14 = .ok (.iload_n 1, 1) := by decide +kernel
theorem dX8_errorPosition_15 : decode cX8_errorPosition 15 = .ok (.aload_n 0, 1) := by decide +kernel
theorem dX8_errorPosition_16 : decode cX8_errorPosition 16 = .ok (.getfield 13, 3) := by decide +kernel
theorem dX8_errorPosition_19 : decode cX8_errorPosition 19 = .ok (.arraylength, 1) := by decide +kernel
theorem dX8_errorPosition_20 : decode cX8_errorPosition 20 = .ok (.if_icmp .ge 12, 3) := by decide +kernel
theorem dX8_errorPosition_23 : decode cX8_errorPosition 23 = .ok (.aload_n 0, 1) := by decide +kernel
theorem dX8_errorPosition_24 : decode cX8_errorPosition 24 = .ok (.getfield 13, 3) := by decide +kernel
theorem dX8_errorPosition_27 : decode cX8_errorPosition 27 = .ok (.iload_n 1, 1) := by decide +kernel
theorem dX8_errorPosition_28 : decode cX8_errorPosition 28 = .ok (.iaload, 1) := by decide +kernel
theorem dX8_errorPosition_29 : decode cX8_errorPosition 29 = .ok (.goto 4, 3) := by decide +kernel
theorem dX8_errorPosition_32 : decode cX8_errorPosition 32 = .ok (.iconst (-1), 1) := by decide +kernel
theorem dX8_errorPosition_33 : decode cX8_errorPosition 33 = .ok (.ireturn, 1) := by decide +kernel
theorem dX8_nodes_0 : decode cX8_nodes 0 = .ok (.aload_n 0, 1) := by decide +kernel
theorem dX8_nodes_1 : decode cX8_nodes 1 = .ok (.getfield 36, 3) := by decide +kernel
theorem dX8_nodes_4 : decode cX8_nodes 4 = .ok (.getfield 90, 3) := by decide +kernel
theorem dX8_nodes_7 : decode cX8_nodes 7 = .ok (.getfield 91, 3) := by decide +kernel
theorem dX8_nodes_10 : decode cX8_nodes 10 = .ok (.ireturn, 1) := by decide +kernel
theorem dX8_parentOf_0 : decode cX8_parentOf 0 = .ok (.aload_n 0, 1) := by decide +kernel
theorem dX8_parentOf_1 : decode cX8_parentOf 1 = .ok (.iload_n 1, 1) := by decide +kernel
theorem dX8_parentOf_2 : decode cX8_parentOf 2 = .ok (.invokevirtual 103, 3) := by decide +kernel
theorem dX8_parentOf_5 : decode cX8_parentOf 5 = .ok (.aload_n 0, 1) := by decide +kernel
theorem dX8_parentOf_6 : decode cX8_parentOf 6 = .ok (.getfield 36, 3) := by decide +kernel
theorem dX8_parentOf_9 : decode cX8_parentOf 9 = .ok (.getfield 90, 3) := by decide +kernel
theorem dX8_parentOf_12 : decode cX8_parentOf 12 = .ok (.getfield 106, 3) := by decide +kernel
theorem dX8_parentOf_15 : decode cX8_parentOf 15 = .ok (.iload_n 1, 1) := by decide +kernel
theorem dX8_parentOf_16 : decode cX8_parentOf 16 = .ok (.iaload, 1) := by decide +kernel
theorem dX8_parentOf_17 : decode cX8_parentOf 17 = .ok (.ireturn, 1) := by decide +kernel
theorem dX8_children_0 : decode cX8_children 0 = .ok (.aload_n 0, 1) := by decide +kernel
theorem dX8_children_1 : decode cX8_children 1 = .ok (.iload_n 1, 1) := by decide +kernel
theorem dX8_children_2 : decode cX8_children 2 = .ok (.invokevirtual 103, 3) := by decide +kernel
theorem dX8_children_5 : decode cX8_children 5 = .ok (.aload_n 0, 1) := by decide +kernel
theorem dX8_children_6 : decode cX8_children 6 = .ok (.getfield 36, 3) := by decide +kernel
theorem dX8_children_9 : decode cX8_children 9 = .ok (.getfield 90, 3) := by decide +kernel
theorem dX8_children_12 : decode cX8_children 12 = .ok (.getfield 109, 3) := by decide +kernel
theorem dX8_children_15 : decode cX8_children 15 = .ok (.iload_n 1, 1) := by decide +kernel
