theorem dX9_hasElement_38 : decode cX9_hasElement 38 = .ok (.iload_n 3, 1) := by decide +kernel
theorem dX9_hasElement_39 : decode cX9_hasElement 39 = .ok (.ifCond .eq 7, 3) := by decide +kernel
theorem dX9_hasElement_42 : decode cX9_hasElement 42 = .ok (.iconst 0, 1) := by decide +kernel
theorem dX9_hasElement_43 : decode cX9_hasElement 43 = .ok (.goto 4, 3) := by decide +kernel
theorem dX9_hasElement_46 : decode cX9_hasElement 46 = .ok (.iconst 1, 1) := by decide +kernel
theorem dX9_hasElement_47 : decode cX9_hasElement 47 = .ok (.putfield 61, 3) := by decide +kernel
theorem dX9_hasElement_50 : decode cX9_hasElement 50 = .ok (.iload_n 3, 1) := by decide +kernel
theorem dX9_hasElement_51 : decode cX9_hasElement 51 = .ok (.ireturn, 1) := by decide +kernel
theorem dX9_queueItem_0 : decode cX9_queueItem 0 = .ok (.aload_n 0, 1) := by decide +kernel
theorem dX9_queueItem_1 : decode cX9_queueItem 1 = .ok (.iload_n 1, 1) := by decide +kernel
theorem dX9_queueItem_2 : decode cX9_queueItem 2 = .ok (.iload_n 2, 1) := by decide +kernel
theorem dX9_queueItem_3 : decode cX9_queueItem 3 = .ok (.invokevirtual 302, 3) := by decide +kernel
theorem dX9_queueItem_6 : decode cX9_queueItem 6 = .ok (.ifCond .eq 24, 3) := by decide +kernel
theorem dX9_queueItem_9 : decode cX9_queueItem 9 = .ok (.aload_n 0, 1) := by decide +kernel
theorem dX9_queueItem_10 : decode cX9_queueItem 10 = .ok (.getfield 7, 3) := by decide +kernel
theorem dX9_queueItem_13 : decode cX9_queueItem 13 = .ok (.iload_n 1, 1) := by decide +kernel
theorem dX9_queueItem_14 : decode cX9_queueItem 14 = .ok (.aload_n 0, 1) := by decide +kernel
theorem dX9_queueItem_15 : decode cX9_queueItem 15 = .ok (.iload_n 1, 1) := by decide +kernel
theorem dX9_queueItem_16 : decode cX9_queueItem 16 = .ok (.iload_n 2, 1) := by decide +kernel
theorem dX9_queueItem_17 : decode cX9_queueItem 17 = .ok (.invokevirtual 250, 3) := by decide +kernel
theorem dX9_queueItem_20 : decode cX9_queueItem 20 = .ok (.invokestatic 215, 3) := by decide +kernel
theorem dX9_queueItem_23 : decode cX9_queueItem 23 = .ok (.iconst 0, 1) := by decide +kernel
theorem dX9_queueItem_24 : decode cX9_queueItem 24 = .ok (.iadd, 1) := by decide +kernel
theorem dX9_queueItem_25 : decode cX9_queueItem 25 = .ok (.laload, 1) := by decide +kernel
theorem dX9_queueItem_26 : decode cX9_queueItem 26 = .ok (.l2i, 1) := by decide +kernel
theorem dX9_queueItem_27 : decode cX9_queueItem 27 = .ok (.goto 4, 3) := by decide +kernel
theorem dX9_queueItem_30 : decode cX9_queueItem 30 = .ok (.iconst 0, 1) := by decide +kernel
theorem dX9_queueItem_31 : decode cX9_queueItem 31 = .ok (.ireturn, 1) := by decide +kernel
theorem dX9_queueRank_0 : decode cX9_queueRank 0 = .ok (.aload_n 0, 1) := by decide +kernel
theorem dX9_queueRank_1 : decode cX9_queueRank 1 = .ok (.iload_n 1, 1) := by decide +kernel
theorem dX9_queueRank_2 : decode cX9_queueRank 2 = .ok (.iload_n 2, 1) := by decide +kernel
theorem dX9_queueRank_3 : decode cX9_queueRank 3 = .ok (.invokevirtual 302, 3) := by decide +kernel
theorem dX9_queueRank_6 : decode cX9_queueRank 6 = .ok (.ifCond .eq 23, 3) := by decide +kernel
theorem dX9_queueRank_9 : decode cX9_queueRank 9 = .ok (.aload_n 0, 1) := by decide +kernel
theorem dX9_queueRank_10 : decode cX9_queueRank 10 = .ok (.getfield 7, 3) := by decide +kernel
theorem dX9_queueRank_13 : decode cX9_queueRank 13 = .ok (.iload_n 1, 1) := by decide +kernel
theorem dX9_queueRank_14 : decode cX9_queueRank 14 = .ok (.aload_n 0, 1) := by decide +kernel
theorem dX9_queueRank_15 : decode cX9_queueRank 15 = .ok (.iload_n 1, 1) := by decide +kernel
theorem dX9_queueRank_16 : decode cX9_queueRank 16 = .ok (.iload_n 2, 1) := by decide +kernel
theorem dX9_queueRank_17 : decode cX9_queueRank 17 = .ok (.invokevirtual 250, 3) := by decide +kernel
theorem dX9_queueRank_20 : decode cX9_queueRank 20 = .ok (.invokestatic 215, 3) := by decide +kernel
theorem dX9_queueRank_23 : decode cX9_queueRank 23 = .ok (.iconst 1, 1) := by decide +kernel
theorem dX9_queueRank_24 : decode cX9_queueRank 24 = .ok (.iadd, 1) := by decide +kernel
theorem dX9_queueRank_25 : decode cX9_queueRank 25 = .ok (.laload, 1) := by decide +kernel
theorem dX9_queueRank_26 : decode cX9_queueRank 26 = .ok (.goto 4, 3) := by decide +kernel
theorem dX9_queueRank_29 : decode cX9_queueRank 29 = .ok (.lconst 0, 1) := by decide +kernel
theorem dX9_queueRank_30 : decode cX9_queueRank 30 = .ok (.lreturn, 1) := by decide +kernel
theorem dX9_virtualTime_0 : decode cX9_virtualTime 0 = .ok (.aload_n 0, 1) := by decide +kernel
theorem dX9_virtualTime_1 : decode cX9_virtualTime 1 = .ok (.aload_n 0, 1) := by decide +kernel
theorem dX9_virtualTime_2 : decode cX9_virtualTime 2 = .ok (.iload_n 1, 1) := by decide +kernel
theorem dX9_virtualTime_3 : decode cX9_virtualTime 3 = .ok (.invokevirtual 269, 3) := by decide +kernel
theorem dX9_virtualTime_6 : decode cX9_virtualTime 6 = .ok (.ifCond .eq 7, 3) := by decide +kernel
theorem dX9_virtualTime_9 : decode cX9_virtualTime 9 = .ok (.iconst 0, 1) := by decide +kernel
theorem dX9_virtualTime_10 : decode cX9_virtualTime 10 = .ok (.goto 4, 3) := by decide +kernel
theorem dX9_virtualTime_13 : decode cX9_virtualTime 13 = .ok (.iconst 1, 1) := by decide +kernel
theorem dX9_virtualTime_14 : decode cX9_virtualTime 14 = .ok (.putfield 61, 3) := by decide +kernel
theorem dX9_virtualTime_17 : decode cX9_virtualTime 17 = .ok (.aload_n 0, 1) := by decide +kernel
theorem dX9_virtualTime_18 : decode cX9_virtualTime 18 = .ok (.iload_n 1, 1) := by decide +kernel
theorem dX9_virtualTime_19 : decode cX9_virtualTime 19 = .ok (.invokevirtual 269, 3) := by decide +kernel
theorem dX9_virtualTime_22 : decode cX9_virtualTime 22 = .ok (.ifCond .eq 18, 3) := by decide +kernel
theorem dX9_virtualTime_25 : decode cX9_virtualTime 25 = .ok (.aload_n 0, 1) := by decide +kernel
theorem dX9_virtualTime_26 : decode cX9_virtualTime 26 = .ok (.getfield 7, 3) := by decide +kernel
theorem dX9_virtualTime_29 : decode cX9_virtualTime 29 = .ok (.iload_n 1, 1) := by decide +kernel
theorem dX9_virtualTime_30 : decode cX9_virtualTime 30 = .ok (.invokestatic 176, 3) := by decide +kernel
theorem dX9_virtualTime_33 : decode cX9_virtualTime 33 = .ok (.bipush 6, 2) := by decide +kernel
theorem dX9_virtualTime_35 : decode cX9_virtualTime 35 = .ok (.iadd, 1) := by decide +kernel
theorem dX9_virtualTime_36 : decode cX9_virtualTime 36 = .ok (.laload, 1) := by decide +kernel
theorem dX9_virtualTime_37 : decode cX9_virtualTime 37 = .ok (.goto 4, 3) := by decide +kernel
theorem dX9_virtualTime_40 : decode cX9_virtualTime 40 = .ok (.lconst 0, 1) := by decide +kernel
theorem dX9_virtualTime_41 : decode cX9_virtualTime 41 = .ok (.lreturn, 1) := by decide +kernel
theorem dX9_state_0 : decode cX9_state 0 = .ok (.aload_n 0, 1) := by decide +kernel
theorem dX9_state_1 : decode cX9_state 1 = .ok (.iconst 0, 1) := by decide +kernel
theorem dX9_state_2 : decode cX9_state 2 = .ok (.putfield 61, 3) := by decide +kernel
theorem dX9_state_5 : decode cX9_state 5 = .ok (.aload_n 0, 1) := by decide +kernel
theorem dX9_state_6 : decode cX9_state 6 = .ok (.iload_n 1, 1) := by decide +kernel
theorem dX9_state_7 : decode cX9_state 7 = .ok (.invokevirtual 269, 3) := by decide +kernel
theorem dX9_state_10 : decode cX9_state 10 = .ok (.ifCond .ne 10, 3) := by decide +kernel
theorem dX9_state_13 : decode cX9_state 13 = .ok (.aload_n 0, 1) := by decide +kernel
theorem dX9_state_14 : decode cX9_state 14 = .ok (.iconst 1, 1) := by decide +kernel
theorem dX9_state_15 : decode cX9_state 15 = .ok (.invokevirtual 189, 3) := by decide +kernel
theorem dX9_state_18 : decode cX9_state 18 = .ok (.i2l, 1) := by decide +kernel
theorem dX9_state_19 : decode cX9_state 19 = .ok (.lreturn, 1) := by decide +kernel
theorem dX9_state_20 : decode cX9_state 20 = .ok (.aload_n 0, 1) := by decide +kernel
theorem dX9_state_21 : decode cX9_state 21 = .ok (.iload_n 1, 1) := by decide +kernel
theorem dX9_state_22 : decode cX9_state 22 = .ok (.invokevirtual 182, 3) := by decide +kernel
theorem dX9_state_25 : decode cX9_state 25 = .ok (.ifCond .eq 10, 3) := by decide +kernel
theorem dX9_state_28 : decode cX9_state 28 = .ok (.iload_n 2, 1) := by decide +kernel
theorem dX9_state_29 : decode cX9_state 29 = .ok (.invokestatic 275, 3) := by decide +kernel
theorem dX9_state_32 : decode cX9_state 32 = .ok (.goto 33, 3) := by decide +kernel
theorem dX9_state_35 : decode cX9_state 35 = .ok (.aload_n 0, 1) := by decide +kernel
theorem dX9_state_36 : decode cX9_state 36 = .ok (.iload_n 2, 1) := by decide +kernel
theorem dX9_state_37 : decode cX9_state 37 = .ok (.invokevirtual 269, 3) := by decide +kernel
theorem dX9_state_40 : decode cX9_state 40 = .ok (.ifCond .eq 24, 3) := by decide +kernel
theorem dX9_state_43 : decode cX9_state 43 = .ok (.aload_n 0, 1) := by decide +kernel
theorem dX9_state_44 : decode cX9_state 44 = .ok (.getfield 7, 3) := by decide +kernel
theorem dX9_state_47 : decode cX9_state 47 = .ok (.iload_n 2, 1) := by decide +kernel
theorem dX9_state_48 : decode cX9_state 48 = .ok (.invokestatic 176, 3) := by decide +kernel
theorem dX9_state_51 : decode cX9_state 51 = .ok (.iconst 0, 1) := by decide +kernel
theorem dX9_state_52 : decode cX9_state 52 = .ok (.iadd, 1) := by decide +kernel
theorem dX9_state_53 : decode cX9_state 53 = .ok (.laload, 1) := by decide +kernel
theorem dX9_state_54 : decode cX9_state 54 = .ok (.iload_n 1, 1) := by decide +kernel
theorem dX9_state_55 : decode cX9_state 55 = .ok (.i2l, 1) := by decide +kernel
theorem dX9_state_56 : decode cX9_state 56 = .ok (.lcmp, 1) := by decide +kernel
theorem dX9_state_57 : decode cX9_state 57 = .ok (.ifCond .ne 7, 3) := by decide +kernel
theorem dX9_state_60 : decode cX9_state 60 = .ok (.iconst 1, 1) := by decide +kernel
theorem dX9_state_61 : decode cX9_state 61 = .ok (.goto 4, 3) := by decide +kernel
theorem dX9_state_64 : decode cX9_state 64 = .ok (.iconst 0, 1) := by decide +kernel
theorem dX9_state_65 : decode cX9_state 65 = .ok (.istore_n 3, 1) := by decide +kernel
theorem dX9_state_66 : decode cX9_state 66 = .ok (.iload_n 3, 1) := by decide +kernel
theorem dX9_state_67 : decode cX9_state 67 = .ok (.ifCond .eq 21, 3) := by decide +kernel
theorem dX9_state_70 : decode cX9_state 70 = .ok (.aload_n 0, 1) := by decide +kernel
theorem dX9_state_71 : decode cX9_state 71 = .ok (.getfield 7, 3) := by decide +kernel
theorem dX9_state_74 : decode cX9_state 74 = .ok (.sipush 280, 3) := by decide +kernel
theorem dX9_state_77 : decode cX9_state 77 = .ok (.bipush 16, 2) := by decide +kernel
theorem dX9_state_79 : decode cX9_state 79 = .ok (.iload_n 1, 1) := by decide +kernel
theorem dX9_state_80 : decode cX9_state 80 = .ok (.imul, 1) := by decide +kernel
theorem dX9_state_81 : decode cX9_state 81 = .ok (.iadd, 1) := by decide +kernel
theorem dX9_state_82 : decode cX9_state 82 = .ok (.iload_n 2, 1) := by decide +kernel
theorem dX9_state_83 : decode cX9_state 83 = .ok (.iadd, 1) := by decide +kernel
theorem dX9_state_84 : decode cX9_state 84 = .ok (.laload, 1) := by decide +kernel
theorem dX9_state_85 : decode cX9_state 85 = .ok (.goto 9, 3) := by decide +kernel
theorem dX9_state_88 : decode cX9_state 88 = .ok (.aload_n 0, 1) := by decide +kernel
theorem dX9_state_89 : decode cX9_state 89 = .ok (.iconst 2, 1) := by decide +kernel
theorem dX9_state_90 : decode cX9_state 90 = .ok (.invokevirtual 189, 3) := by decide +kernel
theorem dX9_state_93 : decode cX9_state 93 = .ok (.i2l, 1) := by decide +kernel
theorem dX9_state_94 : decode cX9_state 94 = .ok (.lreturn, 1) := by decide +kernel
theorem dX9_rankIf_0 : decode cX9_rankIf 0 = .ok (.aload_n 0, 1) := by decide +kernel
theorem dX9_rankIf_1 : decode cX9_rankIf 1 = .ok (.iconst 0, 1) := by decide +kernel
theorem dX9_rankIf_2 : decode cX9_rankIf 2 = .ok (.putfield 61, 3) := by decide +kernel
theorem dX9_rankIf_5 : decode cX9_rankIf 5 = .ok (.iload_n 1, 1) := by decide +kernel
theorem dX9_rankIf_6 : decode cX9_rankIf 6 = .ok (.invokestatic 275, 3) := by decide +kernel
theorem dX9_rankIf_9 : decode cX9_rankIf 9 = .ok (.ifCond .ne 10, 3) := by decide +kernel
theorem dX9_rankIf_12 : decode cX9_rankIf 12 = .ok (.aload_n 0, 1) := by decide +kernel
theorem dX9_rankIf_13 : decode cX9_rankIf 13 = .ok (.iconst 1, 1) := by decide +kernel
theorem dX9_rankIf_14 : decode cX9_rankIf 14 = .ok (.invokevirtual 189, 3) := by decide +kernel
theorem dX9_rankIf_17 : decode cX9_rankIf 17 = .ok (.i2l, 1) := by decide +kernel
theorem dX9_rankIf_18 : decode cX9_rankIf 18 = .ok (.lreturn, 1) := by decide +kernel
theorem dX9_rankIf_19 : decode cX9_rankIf 19 = .ok (.iload_n 2, 1) := by decide +kernel
theorem dX9_rankIf_20 : decode cX9_rankIf 20 = .ok (.iload_n 3, 1) := by decide +kernel
theorem dX9_rankIf_21 : decode cX9_rankIf 21 = .ok (.iload 4, 2) := by decide +kernel
theorem dX9_rankIf_23 : decode cX9_rankIf 23 = .ok (.invokestatic 292, 3) := by decide +kernel
theorem dX9_rankIf_26 : decode cX9_rankIf 26 = .ok (.ifCond .ne 10, 3) := by decide +kernel
theorem dX9_rankIf_29 : decode cX9_rankIf 29 = .ok (.aload_n 0, 1) := by decide +kernel
theorem dX9_rankIf_30 : decode cX9_rankIf 30 = .ok (.iconst 2, 1) := by decide +kernel
theorem dX9_rankIf_31 : decode cX9_rankIf 31 = .ok (.invokevirtual 189, 3) := by decide +kernel
theorem dX9_rankIf_34 : decode cX9_rankIf 34 = .ok (.i2l, 1) := by decide +kernel
theorem dX9_rankIf_35 : decode cX9_rankIf 35 = .ok (.lreturn, 1) := by decide +kernel
theorem dX9_rankIf_36 : decode cX9_rankIf 36 = .ok (.aload_n 0, 1) := by decide +kernel
theorem dX9_rankIf_37 : decode cX9_rankIf 37 = .ok (.getfield 7, 3) := by decide +kernel
theorem dX9_rankIf_40 : decode cX9_rankIf 40 = .ok (.iload_n 1, 1) := by decide +kernel
theorem dX9_rankIf_41 : decode cX9_rankIf 41 = .ok (.invokestatic 179, 3) := by decide +kernel
theorem dX9_rankIf_44 : decode cX9_rankIf 44 = .ok (.iconst 1, 1) := by decide +kernel
theorem dX9_rankIf_45 : decode cX9_rankIf 45 = .ok (.iadd, 1) := by decide +kernel
theorem dX9_rankIf_46 : decode cX9_rankIf 46 = .ok (.laload, 1) := by decide +kernel
theorem dX9_rankIf_47 : decode cX9_rankIf 47 = .ok (.l2i, 1) := by decide +kernel
theorem dX9_rankIf_48 : decode cX9_rankIf 48 = .ok (.istore 5, 2) := by decide +kernel
theorem dX9_rankIf_50 : decode cX9_rankIf 50 = .ok (.aload_n 0, 1) := by decide +kernel
theorem dX9_rankIf_51 : decode cX9_rankIf 51 = .ok (.getfield 45, 3) := by decide +kernel
theorem dX9_rankIf_54 : decode cX9_rankIf 54 = .ok (.iconst 0, 1) := by decide +kernel
theorem dX9_rankIf_55 : decode cX9_rankIf 55 = .ok (.iload_n 3, 1) := by decide +kernel
theorem dX9_rankIf_56 : decode cX9_rankIf 56 = .ok (.i2l, 1) := by decide +kernel
theorem dX9_rankIf_57 : decode cX9_rankIf 57 = .ok (.lastore, 1) := by decide +kernel
theorem dX9_rankIf_58 : decode cX9_rankIf 58 = .ok (.aload_n 0, 1) := by decide +kernel
theorem dX9_rankIf_59 : decode cX9_rankIf 59 = .ok (.getfield 45, 3) := by decide +kernel
theorem dX9_rankIf_62 : decode cX9_rankIf 62 = .ok (.iconst 1, 1) := by decide +kernel
theorem dX9_rankIf_63 : decode cX9_rankIf 63 = .ok (.iload_n 2, 1) := by decide +kernel
theorem dX9_rankIf_64 : decode cX9_rankIf 64 = .ok (.i2l, 1) := by decide +kernel
theorem dX9_rankIf_65 : decode cX9_rankIf 65 = .ok (.lastore, 1) := by decide +kernel
theorem dX9_rankIf_66 : decode cX9_rankIf 66 = .ok (.aload_n 0, 1) := by decide +kernel
theorem dX9_rankIf_67 : decode cX9_rankIf 67 = .ok (.getfield 45, 3) := by decide +kernel
theorem dX9_rankIf_70 : decode cX9_rankIf 70 = .ok (.iconst 2, 1) := by decide +kernel
theorem dX9_rankIf_71 : decode cX9_rankIf 71 = .ok (.aload_n 0, 1) := by decide +kernel
theorem dX9_rankIf_72 : decode cX9_rankIf 72 = .ok (.getfield 7, 3) := by decide +kernel
theorem dX9_rankIf_75 : decode cX9_rankIf 75 = .ok (.iconst 0, 1) := by decide +kernel
theorem dX9_rankIf_76 : decode cX9_rankIf 76 = .ok (.laload, 1) := by decide +kernel
theorem dX9_rankIf_77 : decode cX9_rankIf 77 = .ok (.iload 4, 2) := by decide +kernel
theorem dX9_rankIf_79 : decode cX9_rankIf 79 = .ok (.i2l, 1) := by decide +kernel
theorem dX9_rankIf_80 : decode cX9_rankIf 80 = .ok (.ladd, 1) := by decide +kernel
theorem dX9_rankIf_81 : decode cX9_rankIf 81 = .ok (.lastore, 1) := by decide +kernel
theorem dX9_rankIf_82 : decode cX9_rankIf 82 = .ok (.aload_n 0, 1) := by decide +kernel
theorem dX9_rankIf_83 : decode cX9_rankIf 83 = .ok (.iload 5, 2) := by decide +kernel
theorem dX9_rankIf_85 : decode cX9_rankIf 85 = .ok (.iload_n 1, 1) := by decide +kernel
theorem dX9_rankIf_86 : decode cX9_rankIf 86 = .ok (.aload_n 0, 1) := by decide +kernel
theorem dX9_rankIf_87 : decode cX9_rankIf 87 = .ok (.getfield 7, 3) := by decide +kernel
theorem dX9_rankIf_90 : decode cX9_rankIf 90 = .ok (.iload_n 1, 1) := by decide +kernel
theorem dX9_rankIf_91 : decode cX9_rankIf 91 = .ok (.invokestatic 179, 3) := by decide +kernel
theorem dX9_rankIf_94 : decode cX9_rankIf 94 = .ok (.iconst 0, 1) := by decide +kernel
theorem dX9_rankIf_95 : decode cX9_rankIf 95 = .ok (.iadd, 1) := by decide +kernel
theorem dX9_rankIf_96 : decode cX9_rankIf 96 = .ok (.laload, 1) := by decide +kernel
theorem dX9_rankIf_97 : decode cX9_rankIf 97 = .ok (.aload_n 0, 1) := by decide +kernel
theorem dX9_rankIf_98 : decode cX9_rankIf 98 = .ok (.getfield 7, 3) := by decide +kernel
theorem dX9_rankIf_101 : decode cX9_rankIf 101 = .ok (.iconst 0, 1) := by decide +kernel
theorem dX9_rankIf_102 : decode cX9_rankIf 102 = .ok (.laload, 1) := by decide +kernel
theorem dX9_rankIf_103 : decode cX9_rankIf 103 = .ok (.invokevirtual 207, 3) := by decide +kernel
theorem dX9_rankIf_106 : decode cX9_rankIf 106 = .ok (.aload_n 0, 1) := by decide +kernel
theorem dX9_rankIf_107 : decode cX9_rankIf 107 = .ok (.aload_n 0, 1) := by decide +kernel
theorem dX9_rankIf_108 : decode cX9_rankIf 108 = .ok (.getfield 7, 3) := by decide +kernel
theorem dX9_rankIf_111 : decode cX9_rankIf 111 = .ok (.iload 5, 2) := by decide +kernel
theorem dX9_rankIf_113 : decode cX9_rankIf 113 = .ok (.invokestatic 176, 3) := by decide +kernel
theorem dX9_rankIf_116 : decode cX9_rankIf 116 = .ok (.bipush 7, 2) := by decide +kernel
theorem dX9_rankIf_118 : decode cX9_rankIf 118 = .ok (.iadd, 1) := by decide +kernel
theorem dX9_rankIf_119 : decode cX9_rankIf 119 = .ok (.laload, 1) := by decide +kernel
theorem dX9_rankIf_120 : decode cX9_rankIf 120 = .ok (.aload_n 0, 1) := by decide +kernel
theorem dX9_rankIf_121 : decode cX9_rankIf 121 = .ok (.getfield 7, 3) := by decide +kernel
theorem dX9_rankIf_124 : decode cX9_rankIf 124 = .ok (.iload 5, 2) := by decide +kernel
theorem dX9_rankIf_126 : decode cX9_rankIf 126 = .ok (.invokestatic 176, 3) := by decide +kernel
theorem dX9_rankIf_129 : decode cX9_rankIf 129 = .ok (.bipush 8, 2) := by decide +kernel
theorem dX9_rankIf_131 : decode cX9_rankIf 131 = .ok (.iadd, 1) := by decide +kernel
theorem dX9_rankIf_132 : decode cX9_rankIf 132 = .ok (.laload, 1) := by decide +kernel
theorem dX9_rankIf_133 : decode cX9_rankIf 133 = .ok (.invokevirtual 211, 3) := by decide +kernel
theorem dX9_rankIf_136 : decode cX9_rankIf 136 = .ok (.lreturn, 1) := by decide +kernel
theorem dX9_lays_0 : decode cX9_lays 0 = .ok (.iconst 0, 1) := by decide +kernel
theorem dX9_lays_1 : decode cX9_lays 1 = .ok (.istore_n 2, 1) := by decide +kernel
theorem dX9_lays_2 : decode cX9_lays 2 = .ok (.iload_n 2, 1) := by decide +kernel
theorem dX9_lays_3 : decode cX9_lays 3 = .ok (.sipush 7600, 3) := by decide +kernel
theorem dX9_lays_6 : decode cX9_lays 6 = .ok (.if_icmp .ge 40, 3) := by decide +kernel
theorem dX9_lays_9 : decode cX9_lays 9 = .ok (.iload_n 1, 1) := by decide +kernel
theorem dX9_lays_10 : decode cX9_lays 10 = .ok (.ifCond .eq 18, 3) := by decide +kernel
theorem dX9_lays_13 : decode cX9_lays 13 = .ok (.aload_n 0, 1) := by decide +kernel
theorem dX9_lays_14 : decode cX9_lays 14 = .ok (.getfield 13, 3) := by decide +kernel
theorem dX9_lays_17 : decode cX9_lays 17 = .ok (.iload_n 2, 1) := by decide +kernel
theorem dX9_lays_18 : decode cX9_lays 18 = .ok (.aload_n 0, 1) := by decide +kernel
theorem dX9_lays_19 : decode cX9_lays 19 = .ok (.getfield 7, 3) := by decide +kernel
theorem dX9_lays_22 : decode cX9_lays 22 = .ok (.iload_n 2, 1) := by decide +kernel
theorem dX9_lays_23 : decode cX9_lays 23 = .ok (.laload, 1) := by decide +kernel
theorem dX9_lays_24 : decode cX9_lays 24 = .ok (.lastore, 1) := by decide +kernel
theorem dX9_lays_25 : decode cX9_lays 25 = .ok (.goto 15, 3) := by decide +kernel
theorem dX9_lays_28 : decode cX9_lays 28 = .ok (.aload_n 0, 1) := by decide +kernel
theorem dX9_lays_29 : decode cX9_lays 29 = .ok (.getfield 7, 3) := by decide +kernel
theorem dX9_lays_32 : decode cX9_lays 32 = .ok (.iload_n 2, 1) := by decide +kernel
theorem dX9_lays_33 : decode cX9_lays 33 = .ok (.aload_n 0, 1) := by decide +kernel
theorem dX9_lays_34 : decode cX9_lays 34 = .ok (.getfield 13, 3) := by decide +kernel
theorem dX9_lays_37 : decode cX9_lays 37 = .ok (.iload_n 2, 1) := by decide +kernel
theorem dX9_lays_38 : decode cX9_lays 38 = .ok (.laload, 1) := by decide +kernel
theorem dX9_lays_39 : decode cX9_lays 39 = .ok (.lastore, 1) := by decide +kernel
theorem dX9_lays_40 : decode cX9_lays 40 = .ok (.iinc 2 1, 3) := by decide +kernel
theorem dX9_lays_43 : decode cX9_lays 43 = .ok (.goto (-41), 3) := by decide +kernel
theorem dX9_lays_46 : decode cX9_lays 46 = .ok (.return_, 1) := by decide +kernel
theorem dX9_peek_0 : decode cX9_peek 0 = .ok (.aload_n 0, 1) := by decide +kernel
theorem dX9_peek_1 : decode cX9_peek 1 = .ok (.iconst 0, 1) := by decide +kernel
theorem dX9_peek_2 : decode cX9_peek 2 = .ok (.putfield 61, 3) := by decide +kernel
theorem dX9_peek_5 : decode cX9_peek 5 = .ok (.iload_n 1, 1) := by decide +kernel
theorem dX9_peek_6 : decode cX9_peek 6 = .ok (.ifCond .ge 9, 3) := by decide +kernel
theorem dX9_peek_9 : decode cX9_peek 9 = .ok (.aload_n 0, 1) := by decide +kernel
theorem dX9_peek_10 : decode cX9_peek 10 = .ok (.iconst 1, 1) := by decide +kernel
theorem dX9_peek_11 : decode cX9_peek 11 = .ok (.invokevirtual 189, 3) := by decide +kernel
theorem dX9_peek_14 : decode cX9_peek 14 = .ok (.ireturn, 1) := by decide +kernel
theorem dX9_peek_15 : decode cX9_peek 15 = .ok (.aload_n 0, 1) := by decide +kernel
theorem dX9_peek_16 : decode cX9_peek 16 = .ok (.iconst 1, 1) := by decide +kernel
theorem dX9_peek_17 : decode cX9_peek 17 = .ok (.invokevirtual 306, 3) := by decide +kernel
theorem dX9_peek_20 : decode cX9_peek 20 = .ok (.iconst 0, 1) := by decide +kernel
theorem dX9_peek_21 : decode cX9_peek 21 = .ok (.istore_n 2, 1) := by decide +kernel
theorem dX9_peek_22 : decode cX9_peek 22 = .ok (.iconst 0, 1) := by decide +kernel
theorem dX9_peek_23 : decode cX9_peek 23 = .ok (.istore_n 3, 1) := by decide +kernel
theorem dX9_peek_24 : decode cX9_peek 24 = .ok (.iload_n 3, 1) := by decide +kernel
theorem dX9_peek_25 : decode cX9_peek 25 = .ok (.iload_n 1, 1) := by decide +kernel
theorem dX9_peek_26 : decode cX9_peek 26 = .ok (.if_icmp .gt 18, 3) := by decide +kernel
theorem dX9_peek_29 : decode cX9_peek 29 = .ok (.iload_n 2, 1) := by decide +kernel
theorem dX9_peek_30 : decode cX9_peek 30 = .ok (.ifCond .lt 14, 3) := by decide +kernel
theorem dX9_peek_33 : decode cX9_peek 33 = .ok (.aload_n 0, 1) := by decide +kernel
theorem dX9_peek_34 : decode cX9_peek 34 = .ok (.invokevirtual 256, 3) := by decide +kernel
theorem dX9_peek_37 : decode cX9_peek 37 = .ok (.istore_n 2, 1) := by decide +kernel
theorem dX9_peek_38 : decode cX9_peek 38 = .ok (.iinc 3 1, 3) := by decide +kernel
theorem dX9_peek_41 : decode cX9_peek 41 = .ok (.goto (-17), 3) := by decide +kernel
theorem dX9_peek_44 : decode cX9_peek 44 = .ok (.aload_n 0, 1) := by decide +kernel
theorem dX9_peek_45 : decode cX9_peek 45 = .ok (.iconst 0, 1) := by decide +kernel
theorem dX9_peek_46 : decode cX9_peek 46 = .ok (.invokevirtual 306, 3) := by decide +kernel
theorem dX9_peek_49 : decode cX9_peek 49 = .ok (.iload_n 2, 1) := by decide +kernel
theorem dX9_peek_50 : decode cX9_peek 50 = .ok (.ireturn, 1) := by decide +kernel
theorem dX9_departureIf_0 : decode cX9_departureIf 0 = .ok (.aload_n 0, 1) := by decide +kernel
theorem dX9_departureIf_1 : decode cX9_departureIf 1 = .ok (.iconst 0, 1) := by decide +kernel
theorem dX9_departureIf_2 : decode cX9_departureIf 2 = .ok (.putfield 61, 3) := by decide +kernel
theorem dX9_departureIf_5 : decode cX9_departureIf 5 = .ok (.iload_n 1, 1) := by decide +kernel
theorem dX9_departureIf_6 : decode cX9_departureIf 6 = .ok (.i2l, 1) := by decide +kernel
theorem dX9_departureIf_7 : decode cX9_departureIf 7 = .ok (.lconst 0, 1) := by decide +kernel
theorem dX9_departureIf_8 : decode cX9_departureIf 8 = .ok (.aload_n 0, 1) := by decide +kernel
theorem dX9_departureIf_9 : decode cX9_departureIf 9 = .ok (.getfield 7, 3) := by decide +kernel
theorem dX9_departureIf_12 : decode cX9_departureIf 12 = .ok (.iconst 3, 1) := by decide +kernel
theorem dX9_departureIf_13 : decode cX9_departureIf 13 = .ok (.laload, 1) := by decide +kernel
theorem dX9_departureIf_14 : decode cX9_departureIf 14 = .ok (.lconst 1, 1) := by decide +kernel
theorem dX9_departureIf_15 : decode cX9_departureIf 15 = .ok (.lsub, 1) := by decide +kernel
theorem dX9_departureIf_16 : decode cX9_departureIf 16 = .ok (.invokestatic 79, 3) := by decide +kernel
theorem dX9_departureIf_19 : decode cX9_departureIf 19 = .ok (.ifCond .eq 20, 3) := by decide +kernel
theorem dX9_departureIf_22 : decode cX9_departureIf 22 = .ok (.aload_n 0, 1) := by decide +kernel
theorem dX9_departureIf_23 : decode cX9_departureIf 23 = .ok (.getfield 7, 3) := by decide +kernel
theorem dX9_departureIf_26 : decode cX9_departureIf 26 = .ok (.iload_n 1, 1) := by decide +kernel
theorem dX9_departureIf_27 : decode cX9_departureIf 27 = .ok (.invokestatic 201, 3) := by decide +kernel
theorem dX9_departureIf_30 : decode cX9_departureIf 30 = .ok (.bipush 6, 2) := by decide +kernel
theorem dX9_departureIf_32 : decode cX9_departureIf 32 = .ok (.iadd, 1) := by decide +kernel
theorem dX9_departureIf_33 : decode cX9_departureIf 33 = .ok (.laload, 1) := by decide +kernel
theorem dX9_departureIf_34 : decode cX9_departureIf 34 = .ok (.lconst 0, 1) := by decide +kernel
theorem dX9_departureIf_35 : decode cX9_departureIf 35 = .ok (.lcmp, 1) := by decide +kernel
theorem dX9_departureIf_36 : decode cX9_departureIf 36 = .ok (.ifCond .ne 10, 3) := by decide +kernel
theorem dX9_departureIf_39 : decode cX9_departureIf 39 = .ok (.aload_n 0, 1) := by decide +kernel
theorem dX9_departureIf_40 : decode cX9_departureIf 40 = .ok (.iconst 1, 1) := by decide +kernel
theorem dX9_departureIf_41 : decode cX9_departureIf 41 = .ok (.invokevirtual 189, 3) := by decide +kernel
theorem dX9_departureIf_44 : decode cX9_departureIf 44 = .ok (.i2l, 1) := by decide +kernel
theorem dX9_departureIf_45 : decode cX9_departureIf 45 = .ok (.lreturn, 1) := by decide +kernel
theorem dX9_departureIf_46 : decode cX9_departureIf 46 = .ok (.aload_n 0, 1) := by decide +kernel
theorem dX9_departureIf_47 : decode cX9_departureIf 47 = .ok (.iconst 1, 1) := by decide +kernel
theorem dX9_departureIf_48 : decode cX9_departureIf 48 = .ok (.invokevirtual 306, 3) := by decide +kernel
theorem dX9_departureIf_51 : decode cX9_departureIf 51 = .ok (.ldc2_w 86, 3) := by decide +kernel
theorem dX9_departureIf_54 : decode cX9_departureIf 54 = .ok (.lstore_n 2, 1) := by decide +kernel
theorem dX9_departureIf_55 : decode cX9_departureIf 55 = .ok (.iconst 0, 1) := by decide +kernel
theorem dX9_departureIf_56 : decode cX9_departureIf 56 = .ok (.istore 4, 2) := by decide +kernel
theorem dX9_departureIf_58 : decode cX9_departureIf 58 = .ok (.iload 4, 2) := by decide +kernel
theorem dX9_departureIf_60 : decode cX9_departureIf 60 = .ok (.sipush 5000, 3) := by decide +kernel
theorem dX9_departureIf_63 : decode cX9_departureIf 63 = .ok (.if_icmp .ge 79, 3) := by decide +kernel
theorem dX9_departureIf_66 : decode cX9_departureIf 66 = .ok (.lload_n 2, 1) := by decide +kernel
theorem dX9_departureIf_67 : decode cX9_departureIf 67 = .ok (.lconst 0, 1) := by decide +kernel
theorem dX9_departureIf_68 : decode cX9_departureIf 68 = .ok (.lcmp, 1) := by decide +kernel
theorem dX9_departureIf_69 : decode cX9_departureIf 69 = .ok (.ifCond .ge 73, 3) := by decide +kernel
theorem dX9_departureIf_72 : decode cX9_departureIf 72 = .ok (.aload_n 0, 1) := by decide +kernel
theorem dX9_departureIf_73 : decode cX9_departureIf 73 = .ok (.invokevirtual 299, 3) := by decide +kernel
theorem dX9_departureIf_76 : decode cX9_departureIf 76 = .ok (.istore 5, 2) := by decide +kernel
theorem dX9_departureIf_78 : decode cX9_departureIf 78 = .ok (.iload 5, 2) := by decide +kernel
theorem dX9_departureIf_80 : decode cX9_departureIf 80 = .ok (.iload_n 1, 1) := by decide +kernel
theorem dX9_departureIf_81 : decode cX9_departureIf 81 = .ok (.if_icmp .ne 17, 3) := by decide +kernel
theorem dX9_departureIf_84 : decode cX9_departureIf 84 = .ok (.aload_n 0, 1) := by decide +kernel
theorem dX9_departureIf_85 : decode cX9_departureIf 85 = .ok (.getfield 7, 3) := by decide +kernel
theorem dX9_departureIf_88 : decode cX9_departureIf 88 = .ok (.iload_n 1, 1) := by decide +kernel
theorem dX9_departureIf_89 : decode cX9_departureIf 89 = .ok (.invokestatic 201, 3) := by decide +kernel
theorem dX9_departureIf_92 : decode cX9_departureIf 92 = .ok (.iconst 5, 1) := by decide +kernel
theorem dX9_departureIf_93 : decode cX9_departureIf 93 = .ok (.iadd, 1) := by decide +kernel
theorem dX9_departureIf_94 : decode cX9_departureIf 94 = .ok (.laload, 1) := by decide +kernel
theorem dX9_departureIf_95 : decode cX9_departureIf 95 = .ok (.goto 6, 3) := by decide +kernel
theorem dX9_departureIf_98 : decode cX9_departureIf 98 = .ok (.ldc2_w 86, 3) := by decide +kernel
theorem dX9_departureIf_101 : decode cX9_departureIf 101 = .ok (.lstore_n 2, 1) := by decide +kernel
theorem dX9_departureIf_102 : decode cX9_departureIf 102 = .ok (.aload_n 0, 1) := by decide +kernel
theorem dX9_departureIf_103 : decode cX9_departureIf 103 = .ok (.invokevirtual 232, 3) := by decide +kernel
theorem dX9_departureIf_106 : decode cX9_departureIf 106 = .ok (.istore 6, 2) := by decide +kernel
theorem dX9_departureIf_108 : decode cX9_departureIf 108 = .ok (.iload 5, 2) := by decide +kernel
theorem dX9_departureIf_110 : decode cX9_departureIf 110 = .ok (.ifCond .ge 26, 3) := by decide +kernel
theorem dX9_departureIf_113 : decode cX9_departureIf 113 = .ok (.iload 6, 2) := by decide +kernel
theorem dX9_departureIf_115 : decode cX9_departureIf 115 = .ok (.ifCond .lt 21, 3) := by decide +kernel
theorem dX9_departureIf_118 : decode cX9_departureIf 118 = .ok (.aload_n 0, 1) := by decide +kernel
theorem dX9_departureIf_119 : decode cX9_departureIf 119 = .ok (.aload_n 0, 1) := by decide +kernel
theorem dX9_departureIf_120 : decode cX9_departureIf 120 = .ok (.getfield 7, 3) := by decide +kernel
theorem dX9_departureIf_123 : decode cX9_departureIf 123 = .ok (.iload 6, 2) := by decide +kernel
theorem dX9_departureIf_125 : decode cX9_departureIf 125 = .ok (.invokestatic 229, 3) := by decide +kernel
theorem dX9_departureIf_128 : decode cX9_departureIf 128 = .ok (.iconst 0, 1) := by decide +kernel
theorem dX9_departureIf_129 : decode cX9_departureIf 129 = .ok (.iadd, 1) := by decide +kernel
theorem dX9_departureIf_130 : decode cX9_departureIf 130 = .ok (.laload, 1) := by decide +kernel
theorem dX9_departureIf_131 : decode cX9_departureIf 131 = .ok (.invokevirtual 263, 3) := by decide +kernel
theorem dX9_departureIf_134 : decode cX9_departureIf 134 = .ok (.istore 7, 2) := by decide +kernel
theorem dX9_departureIf_136 : decode cX9_departureIf 136 = .ok (.iinc 4 1, 3) := by decide +kernel
theorem dX9_departureIf_139 : decode cX9_departureIf 139 = .ok (.goto (-81), 3) := by decide +kernel
theorem dX9_departureIf_142 : decode cX9_departureIf 142 = .ok (.aload_n 0, 1) := by decide +kernel
theorem dX9_departureIf_143 : decode cX9_departureIf 143 = .ok (.iconst 0, 1) := by decide +kernel
theorem dX9_departureIf_144 : decode cX9_departureIf 144 = .ok (.invokevirtual 306, 3) := by decide +kernel
theorem dX9_departureIf_147 : decode cX9_departureIf 147 = .ok (.lload_n 2, 1) := by decide +kernel
theorem dX9_departureIf_148 : decode cX9_departureIf 148 = .ok (.lreturn, 1) := by decide +kernel
theorem dX9_ofPacket_0 : decode cX9_ofPacket 0 = .ok (.iload_n 1, 1) := by decide +kernel
theorem dX9_ofPacket_1 : decode cX9_ofPacket 1 = .ok (.i2l, 1) := by decide +kernel
theorem dX9_ofPacket_2 : decode cX9_ofPacket 2 = .ok (.lconst 0, 1) := by decide +kernel
theorem dX9_ofPacket_3 : decode cX9_ofPacket 3 = .ok (.aload_n 0, 1) := by decide +kernel
theorem dX9_ofPacket_4 : decode cX9_ofPacket 4 = .ok (.getfield 7, 3) := by decide +kernel
theorem dX9_ofPacket_7 : decode cX9_ofPacket 7 = .ok (.iconst 3, 1) := by decide +kernel
theorem dX9_ofPacket_8 : decode cX9_ofPacket 8 = .ok (.laload, 1) := by decide +kernel
theorem dX9_ofPacket_9 : decode cX9_ofPacket 9 = .ok (.lconst 1, 1) := by decide +kernel
theorem dX9_ofPacket_10 : decode cX9_ofPacket 10 = .ok (.lsub, 1) := by decide +kernel
theorem dX9_ofPacket_11 : decode cX9_ofPacket 11 = .ok (.invokestatic 79, 3) := by decide +kernel
theorem dX9_ofPacket_14 : decode cX9_ofPacket 14 = .ok (.istore_n 3, 1) := by decide +kernel
theorem dX9_ofPacket_15 : decode cX9_ofPacket 15 = .ok (.aload_n 0, 1) := by decide +kernel
theorem dX9_ofPacket_16 : decode cX9_ofPacket 16 = .ok (.iload_n 3, 1) := by decide +kernel
theorem dX9_ofPacket_17 : decode cX9_ofPacket 17 = .ok (.ifCond .eq 7, 3) := by decide +kernel
theorem dX9_ofPacket_20 : decode cX9_ofPacket 20 = .ok (.iconst 0, 1) := by decide +kernel
theorem dX9_ofPacket_21 : decode cX9_ofPacket 21 = .ok (.goto 4, 3) := by decide +kernel
theorem dX9_ofPacket_24 : decode cX9_ofPacket 24 = .ok (.iconst 1, 1) := by decide +kernel
theorem dX9_ofPacket_25 : decode cX9_ofPacket 25 = .ok (.putfield 61, 3) := by decide +kernel
theorem dX9_ofPacket_28 : decode cX9_ofPacket 28 = .ok (.iload_n 3, 1) := by decide +kernel
theorem dX9_ofPacket_29 : decode cX9_ofPacket 29 = .ok (.ifCond .eq 17, 3) := by decide +kernel
theorem dX9_ofPacket_32 : decode cX9_ofPacket 32 = .ok (.aload_n 0, 1) := by decide +kernel
theorem dX9_ofPacket_33 : decode cX9_ofPacket 33 = .ok (.getfield 7, 3) := by decide +kernel
theorem dX9_ofPacket_36 : decode cX9_ofPacket 36 = .ok (.iload_n 1, 1) := by decide +kernel
theorem dX9_ofPacket_37 : decode cX9_ofPacket 37 = .ok (.invokestatic 201, 3) := by decide +kernel
theorem dX9_ofPacket_40 : decode cX9_ofPacket 40 = .ok (.iload_n 2, 1) := by decide +kernel
theorem dX9_ofPacket_41 : decode cX9_ofPacket 41 = .ok (.iadd, 1) := by decide +kernel
theorem dX9_ofPacket_42 : decode cX9_ofPacket 42 = .ok (.laload, 1) := by decide +kernel
theorem dX9_ofPacket_43 : decode cX9_ofPacket 43 = .ok (.goto 4, 3) := by decide +kernel
theorem dX9_ofPacket_46 : decode cX9_ofPacket 46 = .ok (.lconst 0, 1) := by decide +kernel
theorem dX9_ofPacket_47 : decode cX9_ofPacket 47 = .ok (.lreturn, 1) := by decide +kernel
theorem dX9_flowOf_0 : decode cX9_flowOf 0 = .ok (.aload_n 0, 1) := by decide +kernel
theorem dX9_flowOf_1 : decode cX9_flowOf 1 = .ok (.iload_n 1, 1) := by decide +kernel
theorem dX9_flowOf_2 : decode cX9_flowOf 2 = .ok (.iconst 0, 1) := by decide +kernel
theorem dX9_flowOf_3 : decode cX9_flowOf 3 = .ok (.invokevirtual 310, 3) := by decide +kernel
theorem dX9_flowOf_6 : decode cX9_flowOf 6 = .ok (.l2i, 1) := by decide +kernel
theorem dX9_flowOf_7 : decode cX9_flowOf 7 = .ok (.ireturn, 1) := by decide +kernel
theorem dX9_deadlineOf_0 : decode cX9_deadlineOf 0 = .ok (.aload_n 0, 1) := by decide +kernel
theorem dX9_deadlineOf_1 : decode cX9_deadlineOf 1 = .ok (.iload_n 1, 1) := by decide +kernel
theorem dX9_deadlineOf_2 : decode cX9_deadlineOf 2 = .ok (.iconst 4, 1) := by decide +kernel
theorem dX9_deadlineOf_3 : decode cX9_deadlineOf 3 = .ok (.invokevirtual 310, 3) := by decide +kernel
theorem dX9_deadlineOf_6 : decode cX9_deadlineOf 6 = .ok (.lreturn, 1) := by decide +kernel
theorem dX9_departureOf_0 : decode cX9_departureOf 0 = .ok (.aload_n 0, 1) := by decide +kernel
theorem dX9_departureOf_1 : decode cX9_departureOf 1 = .ok (.iload_n 1, 1) := by decide +kernel
theorem dX9_departureOf_2 : decode cX9_departureOf 2 = .ok (.iconst 5, 1) := by decide +kernel
theorem dX9_departureOf_3 : decode cX9_departureOf 3 = .ok (.invokevirtual 310, 3) := by decide +kernel
theorem dX9_departureOf_6 : decode cX9_departureOf 6 = .ok (.lreturn, 1) := by decide +kernel
theorem dX9_sent_0 : decode cX9_sent 0 = .ok (.aload_n 0, 1) := by decide +kernel
theorem dX9_sent_1 : decode cX9_sent 1 = .ok (.iload_n 1, 1) := by decide +kernel
theorem dX9_sent_2 : decode cX9_sent 2 = .ok (.iconst 2, 1) := by decide +kernel
theorem dX9_sent_3 : decode cX9_sent 3 = .ok (.invokevirtual 283, 3) := by decide +kernel
theorem dX9_sent_6 : decode cX9_sent 6 = .ok (.ireturn, 1) := by decide +kernel
theorem dX9_sentBytes_0 : decode cX9_sentBytes 0 = .ok (.aload_n 0, 1) := by decide +kernel
theorem dX9_sentBytes_1 : decode cX9_sentBytes 1 = .ok (.iload_n 1, 1) := by decide +kernel
theorem dX9_sentBytes_2 : decode cX9_sentBytes 2 = .ok (.iconst 3, 1) := by decide +kernel
theorem dX9_sentBytes_3 : decode cX9_sentBytes 3 = .ok (.invokevirtual 283, 3) := by decide +kernel
theorem dX9_sentBytes_6 : decode cX9_sentBytes 6 = .ok (.ireturn, 1) := by decide +kernel
theorem dX9_totalDelay_0 : decode cX9_totalDelay 0 = .ok (.aload_n 0, 1) := by decide +kernel
theorem dX9_totalDelay_1 : decode cX9_totalDelay 1 = .ok (.iload_n 1, 1) := by decide +kernel
theorem dX9_totalDelay_2 : decode cX9_totalDelay 2 = .ok (.invokestatic 275, 3) := by decide +kernel
theorem dX9_totalDelay_5 : decode cX9_totalDelay 5 = .ok (.ifCond .eq 7, 3) := by decide +kernel
theorem dX9_totalDelay_8 : decode cX9_totalDelay 8 = .ok (.iconst 0, 1) := by decide +kernel
theorem dX9_totalDelay_9 : decode cX9_totalDelay 9 = .ok (.goto 4, 3) := by decide +kernel
theorem dX9_totalDelay_12 : decode cX9_totalDelay 12 = .ok (.iconst 1, 1) := by decide +kernel
theorem dX9_totalDelay_13 : decode cX9_totalDelay 13 = .ok (.putfield 61, 3) := by decide +kernel
theorem dX9_totalDelay_16 : decode cX9_totalDelay 16 = .ok (.iload_n 1, 1) := by decide +kernel
theorem dX9_totalDelay_17 : decode cX9_totalDelay 17 = .ok (.invokestatic 275, 3) := by decide +kernel
theorem dX9_totalDelay_20 : decode cX9_totalDelay 20 = .ok (.ifCond .eq 17, 3) := by decide +kernel
theorem dX9_totalDelay_23 : decode cX9_totalDelay 23 = .ok (.aload_n 0, 1) := by decide +kernel
theorem dX9_totalDelay_24 : decode cX9_totalDelay 24 = .ok (.getfield 7, 3) := by decide +kernel
theorem dX9_totalDelay_27 : decode cX9_totalDelay 27 = .ok (.iload_n 1, 1) := by decide +kernel
theorem dX9_totalDelay_28 : decode cX9_totalDelay 28 = .ok (.invokestatic 179, 3) := by decide +kernel
theorem dX9_totalDelay_31 : decode cX9_totalDelay 31 = .ok (.iconst 4, 1) := by decide +kernel
theorem dX9_totalDelay_32 : decode cX9_totalDelay 32 = .ok (.iadd, 1) := by decide +kernel
theorem dX9_totalDelay_33 : decode cX9_totalDelay 33 = .ok (.laload, 1) := by decide +kernel
theorem dX9_totalDelay_34 : decode cX9_totalDelay 34 = .ok (.goto 4, 3) := by decide +kernel
theorem dX9_totalDelay_37 : decode cX9_totalDelay 37 = .ok (.lconst 0, 1) := by decide +kernel
theorem dX9_totalDelay_38 : decode cX9_totalDelay 38 = .ok (.lreturn, 1) := by decide +kernel
theorem dX9_greatestDelay_0 : decode cX9_greatestDelay 0 = .ok (.aload_n 0, 1) := by decide +kernel
theorem dX9_greatestDelay_1 : decode cX9_greatestDelay 1 = .ok (.iload_n 1, 1) := by decide +kernel
theorem dX9_greatestDelay_2 : decode cX9_greatestDelay 2 = .ok (.invokestatic 275, 3) := by decide +kernel
theorem dX9_greatestDelay_5 : decode cX9_greatestDelay 5 = .ok (.ifCond .eq 7, 3) := by decide +kernel
theorem dX9_greatestDelay_8 : decode cX9_greatestDelay 8 = .ok (.iconst 0, 1) := by decide +kernel
theorem dX9_greatestDelay_9 : decode cX9_greatestDelay 9 = .ok (.goto 4, 3) := by decide +kernel
theorem dX9_greatestDelay_12 : decode cX9_greatestDelay 12 = .ok (.iconst 1, 1) := by decide +kernel
theorem dX9_greatestDelay_13 : decode cX9_greatestDelay 13 = .ok (.putfield 61, 3) := by decide +kernel
theorem dX9_greatestDelay_16 : decode cX9_greatestDelay 16 = .ok (.iload_n 1, 1) := by decide +kernel
theorem dX9_greatestDelay_17 : decode cX9_greatestDelay 17 = .ok (.invokestatic 275, 3) := by decide +kernel
theorem dX9_greatestDelay_20 : decode cX9_greatestDelay 20 = .ok (.ifCond .eq 17, 3) := by decide +kernel
theorem dX9_greatestDelay_23 : decode cX9_greatestDelay 23 = .ok (.aload_n 0, 1) := by decide +kernel
theorem dX9_greatestDelay_24 : decode cX9_greatestDelay 24 = .ok (.getfield 7, 3) := by decide +kernel
theorem dX9_greatestDelay_27 : decode cX9_greatestDelay 27 = .ok (.iload_n 1, 1) := by decide +kernel
theorem dX9_greatestDelay_28 : decode cX9_greatestDelay 28 = .ok (.invokestatic 179, 3) := by decide +kernel
theorem dX9_greatestDelay_31 : decode cX9_greatestDelay 31 = .ok (.iconst 5, 1) := by decide +kernel
theorem dX9_greatestDelay_32 : decode cX9_greatestDelay 32 = .ok (.iadd, 1) := by decide +kernel
theorem dX9_greatestDelay_33 : decode cX9_greatestDelay 33 = .ok (.laload, 1) := by decide +kernel
theorem dX9_greatestDelay_34 : decode cX9_greatestDelay 34 = .ok (.goto 4, 3) := by decide +kernel
theorem dX9_greatestDelay_37 : decode cX9_greatestDelay 37 = .ok (.lconst 0, 1) := by decide +kernel
theorem dX9_greatestDelay_38 : decode cX9_greatestDelay 38 = .ok (.lreturn, 1) := by decide +kernel
theorem dX9_missed_0 : decode cX9_missed 0 = .ok (.aload_n 0, 1) := by decide +kernel
theorem dX9_missed_1 : decode cX9_missed 1 = .ok (.iload_n 1, 1) := by decide +kernel
theorem dX9_missed_2 : decode cX9_missed 2 = .ok (.bipush 6, 2) := by decide +kernel
theorem dX9_missed_4 : decode cX9_missed 4 = .ok (.invokevirtual 283, 3) := by decide +kernel
theorem dX9_missed_7 : decode cX9_missed 7 = .ok (.ireturn, 1) := by decide +kernel
theorem dX9_share_0 : decode cX9_share 0 = .ok (.aload_n 0, 1) := by decide +kernel
theorem dX9_share_1 : decode cX9_share 1 = .ok (.iload_n 1, 1) := by decide +kernel
theorem dX9_share_2 : decode cX9_share 2 = .ok (.invokestatic 275, 3) := by decide +kernel
theorem dX9_share_5 : decode cX9_share 5 = .ok (.ifCond .eq 7, 3) := by decide +kernel
theorem dX9_share_8 : decode cX9_share 8 = .ok (.iconst 0, 1) := by decide +kernel
theorem dX9_share_9 : decode cX9_share 9 = .ok (.goto 4, 3) := by decide +kernel
theorem dX9_share_12 : decode cX9_share 12 = .ok (.iconst 1, 1) := by decide +kernel
theorem dX9_share_13 : decode cX9_share 13 = .ok (.putfield 61, 3) := by decide +kernel
theorem dX9_share_16 : decode cX9_share 16 = .ok (.lconst 0, 1) := by decide +kernel
theorem dX9_share_17 : decode cX9_share 17 = .ok (.lstore_n 2, 1) := by decide +kernel
theorem dX9_share_18 : decode cX9_share 18 = .ok (.iconst 0, 1) := by decide +kernel
theorem dX9_share_19 : decode cX9_share 19 = .ok (.istore 4, 2) := by decide +kernel
theorem dX9_share_21 : decode cX9_share 21 = .ok (.iload 4, 2) := by decide +kernel
theorem dX9_share_23 : decode cX9_share 23 = .ok (.bipush 16, 2) := by decide +kernel
theorem dX9_share_25 : decode cX9_share 25 = .ok (.if_icmp .ge 24, 3) := by decide +kernel
theorem dX9_share_28 : decode cX9_share 28 = .ok (.lload_n 2, 1) := by decide +kernel
theorem dX9_share_29 : decode cX9_share 29 = .ok (.aload_n 0, 1) := by decide +kernel
theorem dX9_share_30 : decode cX9_share 30 = .ok (.getfield 7, 3) := by decide +kernel
theorem dX9_share_33 : decode cX9_share 33 = .ok (.iload 4, 2) := by decide +kernel
theorem dX9_share_35 : decode cX9_share 35 = .ok (.invokestatic 179, 3) := by decide +kernel
theorem dX9_share_38 : decode cX9_share 38 = .ok (.iconst 3, 1) := by decide +kernel
theorem dX9_share_39 : decode cX9_share 39 = .ok (.iadd, 1) := by decide +kernel
theorem dX9_share_40 : decode cX9_share 40 = .ok (.laload, 1) := by decide +kernel
theorem dX9_share_41 : decode cX9_share 41 = .ok (.ladd, 1) := by decide +kernel
theorem dX9_share_42 : decode cX9_share 42 = .ok (.lstore_n 2, 1) := by decide +kernel
theorem dX9_share_43 : decode cX9_share 43 = .ok (.iinc 4 1, 3) := by decide +kernel
theorem dX9_share_46 : decode cX9_share 46 = .ok (.goto (-25), 3) := by decide +kernel
theorem dX9_share_49 : decode cX9_share 49 = .ok (.aload_n 0, 1) := by decide +kernel
theorem dX9_share_50 : decode cX9_share 50 = .ok (.getfield 61, 3) := by decide +kernel
theorem dX9_share_53 : decode cX9_share 53 = .ok (.iconst 1, 1) := by decide +kernel
theorem dX9_share_54 : decode cX9_share 54 = .ok (.if_icmp .eq 9, 3) := by decide +kernel
theorem dX9_share_57 : decode cX9_share 57 = .ok (.lload_n 2, 1) := by decide +kernel
theorem dX9_share_58 : decode cX9_share 58 = .ok (.lconst 0, 1) := by decide +kernel
theorem dX9_share_59 : decode cX9_share 59 = .ok (.lcmp, 1) := by decide +kernel
theorem dX9_share_60 : decode cX9_share 60 = .ok (.ifCond .ne 7, 3) := by decide +kernel
theorem dX9_share_63 : decode cX9_share 63 = .ok (.iconst 0, 1) := by decide +kernel
theorem dX9_share_64 : decode cX9_share 64 = .ok (.goto 21, 3) := by decide +kernel
theorem dX9_share_67 : decode cX9_share 67 = .ok (.ldc2_w 227, 3) := by decide +kernel
theorem dX9_share_70 : decode cX9_share 70 = .ok (.aload_n 0, 1) := by decide +kernel
theorem dX9_share_71 : decode cX9_share 71 = .ok (.getfield 7, 3) := by decide +kernel
theorem dX9_share_74 : decode cX9_share 74 = .ok (.iload_n 1, 1) := by decide +kernel
theorem dX9_share_75 : decode cX9_share 75 = .ok (.invokestatic 179, 3) := by decide +kernel
theorem dX9_share_78 : decode cX9_share 78 = .ok (.iconst 3, 1) := by decide +kernel
theorem dX9_share_79 : decode cX9_share 79 = .ok (.iadd, 1) := by decide +kernel
theorem dX9_share_80 : decode cX9_share 80 = .ok (.laload, 1) := by decide +kernel
theorem dX9_share_81 : decode cX9_share 81 = .ok (.lmul, 1) := by decide +kernel
theorem dX9_share_82 : decode cX9_share 82 = .ok (.lload_n 2, 1) := by decide +kernel
theorem dX9_share_83 : decode cX9_share 83 = .ok (.ldiv, 1) := by decide +kernel
theorem dX9_share_84 : decode cX9_share 84 = .ok (.l2i, 1) := by decide +kernel
theorem dX9_share_85 : decode cX9_share 85 = .ok (.ireturn, 1) := by decide +kernel
theorem dX9_checkpoint_0 : decode cX9_checkpoint 0 = .ok (.aload_n 0, 1) := by decide +kernel
theorem dX9_checkpoint_1 : decode cX9_checkpoint 1 = .ok (.iconst 0, 1) := by decide +kernel
theorem dX9_checkpoint_2 : decode cX9_checkpoint 2 = .ok (.putfield 61, 3) := by decide +kernel
theorem dX9_checkpoint_5 : decode cX9_checkpoint 5 = .ok (.aload_n 0, 1) := by decide +kernel
theorem dX9_checkpoint_6 : decode cX9_checkpoint 6 = .ok (.getfield 314, 3) := by decide +kernel
theorem dX9_checkpoint_9 : decode cX9_checkpoint 9 = .ok (.iconst 3, 1) := by decide +kernel
theorem dX9_checkpoint_10 : decode cX9_checkpoint 10 = .ok (.if_icmp .ne 9, 3) := by decide +kernel
theorem dX9_checkpoint_13 : decode cX9_checkpoint 13 = .ok (.aload_n 0, 1) := by decide +kernel
theorem dX9_checkpoint_14 : decode cX9_checkpoint 14 = .ok (.iconst 1, 1) := by decide +kernel
theorem dX9_checkpoint_15 : decode cX9_checkpoint 15 = .ok (.invokevirtual 189, 3) := by decide +kernel
theorem dX9_checkpoint_18 : decode cX9_checkpoint 18 = .ok (.ireturn, 1) := by decide +kernel
theorem dX9_checkpoint_19 : decode cX9_checkpoint 19 = .ok (.iconst 0, 1) := by decide +kernel
theorem dX9_checkpoint_20 : decode cX9_checkpoint 20 = .ok (.istore_n 1, 1) := by decide +kernel
theorem dX9_checkpoint_21 : decode cX9_checkpoint 21 = .ok (.iload_n 1, 1) := by decide +kernel
theorem dX9_checkpoint_22 : decode cX9_checkpoint 22 = .ok (.sipush 7600, 3) := by decide +kernel
theorem dX9_checkpoint_25 : decode cX9_checkpoint 25 = .ok (.if_icmp .ge 30, 3) := by decide +kernel
theorem dX9_checkpoint_28 : decode cX9_checkpoint 28 = .ok (.aload_n 0, 1) := by decide +kernel
theorem dX9_checkpoint_29 : decode cX9_checkpoint 29 = .ok (.getfield 16, 3) := by decide +kernel
theorem dX9_checkpoint_32 : decode cX9_checkpoint 32 = .ok (.sipush 7600, 3) := by decide +kernel
theorem dX9_checkpoint_35 : decode cX9_checkpoint 35 = .ok (.aload_n 0, 1) := by decide +kernel
theorem dX9_checkpoint_36 : decode cX9_checkpoint 36 = .ok (.getfield 314, 3) := by decide +kernel
theorem dX9_checkpoint_39 : decode cX9_checkpoint 39 = .ok (.imul, 1) := by decide +kernel
theorem dX9_checkpoint_40 : decode cX9_checkpoint 40 = .ok (.iload_n 1, 1) := by decide +kernel
theorem dX9_checkpoint_41 : decode cX9_checkpoint 41 = .ok (.iadd, 1) := by decide +kernel
theorem dX9_checkpoint_42 : decode cX9_checkpoint 42 = .ok (.aload_n 0, 1) := by decide +kernel
theorem dX9_checkpoint_43 : decode cX9_checkpoint 43 = .ok (.getfield 7, 3) := by decide +kernel
theorem dX9_checkpoint_46 : decode cX9_checkpoint 46 = .ok (.iload_n 1, 1) := by decide +kernel
theorem dX9_checkpoint_47 : decode cX9_checkpoint 47 = .ok (.laload, 1) := by decide +kernel
theorem dX9_checkpoint_48 : decode cX9_checkpoint 48 = .ok (.lastore, 1) := by decide +kernel
theorem dX9_checkpoint_49 : decode cX9_checkpoint 49 = .ok (.iinc 1 1, 3) := by decide +kernel
theorem dX9_checkpoint_52 : decode cX9_checkpoint 52 = .ok (.goto (-31), 3) := by decide +kernel
theorem dX9_checkpoint_55 : decode cX9_checkpoint 55 = .ok (.aload_n 0, 1) := by decide +kernel
theorem dX9_checkpoint_56 : decode cX9_checkpoint 56 = .ok (.dup, 1) := by decide +kernel
theorem dX9_checkpoint_57 : decode cX9_checkpoint 57 = .ok (.getfield 314, 3) := by decide +kernel
theorem dX9_checkpoint_60 : decode cX9_checkpoint 60 = .ok (.iconst 1, 1) := by decide +kernel
theorem dX9_checkpoint_61 : decode cX9_checkpoint 61 = .ok (.iadd, 1) := by decide +kernel
theorem dX9_checkpoint_62 : decode cX9_checkpoint 62 = .ok (.putfield 314, 3) := by decide +kernel
theorem dX9_checkpoint_65 : decode cX9_checkpoint 65 = .ok (.aload_n 0, 1) := by decide +kernel
theorem dX9_checkpoint_66 : decode cX9_checkpoint 66 = .ok (.getfield 314, 3) := by decide +kernel
theorem dX9_checkpoint_69 : decode cX9_checkpoint 69 = .ok (.ireturn, 1) := by decide +kernel
theorem dX9_rollback_0 : decode cX9_rollback 0 = .ok (.aload_n 0, 1) := by decide +kernel
theorem dX9_rollback_1 : decode cX9_rollback 1 = .ok (.iconst 0, 1) := by decide +kernel
theorem dX9_rollback_2 : decode cX9_rollback 2 = .ok (.putfield 61, 3) := by decide +kernel
theorem dX9_rollback_5 : decode cX9_rollback 5 = .ok (.aload_n 0, 1) := by decide +kernel
theorem dX9_rollback_6 : decode cX9_rollback 6 = .ok (.getfield 314, 3) := by decide +kernel
theorem dX9_rollback_9 : decode cX9_rollback 9 = .ok (.ifCond .ne 9, 3) := by decide +kernel
theorem dX9_rollback_12 : decode cX9_rollback 12 = .ok (.aload_n 0, 1) := by decide +kernel
theorem dX9_rollback_13 : decode cX9_rollback 13 = .ok (.iconst 1, 1) := by decide +kernel
theorem dX9_rollback_14 : decode cX9_rollback 14 = .ok (.invokevirtual 189, 3) := by decide +kernel
theorem dX9_rollback_17 : decode cX9_rollback 17 = .ok (.ireturn, 1) := by decide +kernel
theorem dX9_rollback_18 : decode cX9_rollback 18 = .ok (.aload_n 0, 1) := by decide +kernel
theorem dX9_rollback_19 : decode cX9_rollback 19 = .ok (.dup, 1) := by decide +kernel
theorem dX9_rollback_20 : decode cX9_rollback 20 = .ok (.getfield 314, 3) := by decide +kernel
theorem dX9_rollback_23 : decode cX9_rollback 23 = .ok (.iconst 1, 1) := by decide +kernel
theorem dX9_rollback_24 : decode cX9_rollback 24 = .ok (.isub, 1) := by decide +kernel
theorem dX9_rollback_25 : decode cX9_rollback 25 = .ok (.putfield 314, 3) := by decide +kernel
theorem dX9_rollback_28 : decode cX9_rollback 28 = .ok (.iconst 0, 1) := by decide +kernel
theorem dX9_rollback_29 : decode cX9_rollback 29 = .ok (.istore_n 1, 1) := by decide +kernel
theorem dX9_rollback_30 : decode cX9_rollback 30 = .ok (.iload_n 1, 1) := by decide +kernel
theorem dX9_rollback_31 : decode cX9_rollback 31 = .ok (.sipush 7600, 3) := by decide +kernel
theorem dX9_rollback_34 : decode cX9_rollback 34 = .ok (.if_icmp .ge 30, 3) := by decide +kernel
theorem dX9_rollback_37 : decode cX9_rollback 37 = .ok (.aload_n 0, 1) := by decide +kernel
theorem dX9_rollback_38 : decode cX9_rollback 38 = .ok (.getfield 7, 3) := by decide +kernel
theorem dX9_rollback_41 : decode cX9_rollback 41 = .ok (.iload_n 1, 1) := by decide +kernel
theorem dX9_rollback_42 : decode cX9_rollback 42 = .ok (.aload_n 0, 1) := by decide +kernel
theorem dX9_rollback_43 : decode cX9_rollback 43 = .ok (.getfield 16, 3) := by decide +kernel
theorem dX9_rollback_46 : decode cX9_rollback 46 = .ok (.sipush 7600, 3) := by decide +kernel
theorem dX9_rollback_49 : decode cX9_rollback 49 = .ok (.aload_n 0, 1) := by decide +kernel
theorem dX9_rollback_50 : decode cX9_rollback 50 = .ok (.getfield 314, 3) := by decide +kernel
theorem dX9_rollback_53 : decode cX9_rollback 53 = .ok (.imul, 1) := by decide +kernel
theorem dX9_rollback_54 : decode cX9_rollback 54 = .ok (.iload_n 1, 1) := by decide +kernel
theorem dX9_rollback_55 : decode cX9_rollback 55 = .ok (.iadd, 1) := by decide +kernel
theorem dX9_rollback_56 : decode cX9_rollback 56 = .ok (.laload, 1) := by decide +kernel
theorem dX9_rollback_57 : decode cX9_rollback 57 = .ok (.lastore, 1) := by decide +kernel
theorem dX9_rollback_58 : decode cX9_rollback 58 = .ok (.iinc 1 1, 3) := by decide +kernel
theorem dX9_rollback_61 : decode cX9_rollback 61 = .ok (.goto (-31), 3) := by decide +kernel
theorem dX9_rollback_64 : decode cX9_rollback 64 = .ok (.aload_n 0, 1) := by decide +kernel
theorem dX9_rollback_65 : decode cX9_rollback 65 = .ok (.getfield 314, 3) := by decide +kernel
theorem dX9_rollback_68 : decode cX9_rollback 68 = .ok (.ireturn, 1) := by decide +kernel
theorem dX9_commit_0 : decode cX9_commit 0 = .ok (.aload_n 0, 1) := by decide +kernel
theorem dX9_commit_1 : decode cX9_commit 1 = .ok (.iconst 0, 1) := by decide +kernel
theorem dX9_commit_2 : decode cX9_commit 2 = .ok (.putfield 61, 3) := by decide +kernel
theorem dX9_commit_5 : decode cX9_commit 5 = .ok (.aload_n 0, 1) := by decide +kernel
theorem dX9_commit_6 : decode cX9_commit 6 = .ok (.getfield 314, 3) := by decide +kernel
theorem dX9_commit_9 : decode cX9_commit 9 = .ok (.ifCond .ne 9, 3) := by decide +kernel
theorem dX9_commit_12 : decode cX9_commit 12 = .ok (.aload_n 0, 1) := by decide +kernel
theorem dX9_commit_13 : decode cX9_commit 13 = .ok (.iconst 1, 1) := by decide +kernel
theorem dX9_commit_14 : decode cX9_commit 14 = .ok (.invokevirtual 189, 3) := by decide +kernel
theorem dX9_commit_17 : decode cX9_commit 17 = .ok (.ireturn, 1) := by decide +kernel
theorem dX9_commit_18 : decode cX9_commit 18 = .ok (.aload_n 0, 1) := by decide +kernel
theorem dX9_commit_19 : decode cX9_commit 19 = .ok (.dup, 1) := by decide +kernel
theorem dX9_commit_20 : decode cX9_commit 20 = .ok (.getfield 314, 3) := by decide +kernel
theorem dX9_commit_23 : decode cX9_commit 23 = .ok (.iconst 1, 1) := by decide +kernel
theorem dX9_commit_24 : decode cX9_commit 24 = .ok (.isub, 1) := by decide +kernel
theorem dX9_commit_25 : decode cX9_commit 25 = .ok (.putfield 314, 3) := by decide +kernel
theorem dX9_commit_28 : decode cX9_commit 28 = .ok (.aload_n 0, 1) := by decide +kernel
theorem dX9_commit_29 : decode cX9_commit 29 = .ok (.getfield 314, 3) := by decide +kernel
theorem dX9_commit_32 : decode cX9_commit 32 = .ok (.ireturn, 1) := by decide +kernel
theorem dX9_fingerprint_0 : decode cX9_fingerprint 0 = .ok (.aload_n 0, 1) := by decide +kernel
theorem dX9_fingerprint_1 : decode cX9_fingerprint 1 = .ok (.iconst 0, 1) := by decide +kernel
theorem dX9_fingerprint_2 : decode cX9_fingerprint 2 = .ok (.putfield 61, 3) := by decide +kernel
theorem dX9_fingerprint_5 : decode cX9_fingerprint 5 = .ok (.ldc2_w 317, 3) := by decide +kernel
theorem dX9_fingerprint_8 : decode cX9_fingerprint 8 = .ok (.ldc2_w 319, 3) := by decide +kernel
theorem dX9_fingerprint_11 : decode cX9_fingerprint 11 = .ok (.aload_n 0, 1) := by decide +kernel
theorem dX9_fingerprint_12 : decode cX9_fingerprint 12 = .ok (.getfield 7, 3) := by decide +kernel
theorem dX9_fingerprint_15 : decode cX9_fingerprint 15 = .ok (.iconst 0, 1) := by decide +kernel
theorem dX9_fingerprint_16 : decode cX9_fingerprint 16 = .ok (.laload, 1) := by decide +kernel
theorem dX9_fingerprint_17 : decode cX9_fingerprint 17 = .ok (.ladd, 1) := by decide +kernel
theorem dX9_fingerprint_18 : decode cX9_fingerprint 18 = .ok (.lmul, 1) := by decide +kernel
theorem dX9_fingerprint_19 : decode cX9_fingerprint 19 = .ok (.aload_n 0, 1) := by decide +kernel
theorem dX9_fingerprint_20 : decode cX9_fingerprint 20 = .ok (.getfield 7, 3) := by decide +kernel
theorem dX9_fingerprint_23 : decode cX9_fingerprint 23 = .ok (.iconst 4, 1) := by decide +kernel
theorem dX9_fingerprint_24 : decode cX9_fingerprint 24 = .ok (.laload, 1) := by decide +kernel
theorem dX9_fingerprint_25 : decode cX9_fingerprint 25 = .ok (.ladd, 1) := by decide +kernel
theorem dX9_fingerprint_26 : decode cX9_fingerprint 26 = .ok (.lstore_n 1, 1) := by decide +kernel
theorem dX9_fingerprint_27 : decode cX9_fingerprint 27 = .ok (.iconst 0, 1) := by decide +kernel
theorem dX9_fingerprint_28 : decode cX9_fingerprint 28 = .ok (.istore_n 3, 1) := by decide +kernel
theorem dX9_fingerprint_29 : decode cX9_fingerprint 29 = .ok (.iload_n 3, 1) := by decide +kernel
theorem dX9_fingerprint_30 : decode cX9_fingerprint 30 = .ok (.i2l, 1) := by decide +kernel
theorem dX9_fingerprint_31 : decode cX9_fingerprint 31 = .ok (.aload_n 0, 1) := by decide +kernel
theorem dX9_fingerprint_32 : decode cX9_fingerprint 32 = .ok (.getfield 7, 3) := by decide +kernel
theorem dX9_fingerprint_35 : decode cX9_fingerprint 35 = .ok (.iconst 2, 1) := by decide +kernel
theorem dX9_fingerprint_36 : decode cX9_fingerprint 36 = .ok (.laload, 1) := by decide +kernel
theorem dX9_fingerprint_37 : decode cX9_fingerprint 37 = .ok (.lcmp, 1) := by decide +kernel
theorem dX9_fingerprint_38 : decode cX9_fingerprint 38 = .ok (.ifCond .ge 120, 3) := by decide +kernel
theorem dX9_fingerprint_41 : decode cX9_fingerprint 41 = .ok (.ldc2_w 317, 3) := by decide +kernel
theorem dX9_fingerprint_44 : decode cX9_fingerprint 44 = .ok (.lload_n 1, 1) := by decide +kernel
theorem dX9_fingerprint_45 : decode cX9_fingerprint 45 = .ok (.lmul, 1) := by decide +kernel
theorem dX9_fingerprint_46 : decode cX9_fingerprint 46 = .ok (.aload_n 0, 1) := by decide +kernel
theorem dX9_fingerprint_47 : decode cX9_fingerprint 47 = .ok (.getfield 7, 3) := by decide +kernel
theorem dX9_fingerprint_50 : decode cX9_fingerprint 50 = .ok (.iload_n 3, 1) := by decide +kernel
theorem dX9_fingerprint_51 : decode cX9_fingerprint 51 = .ok (.invokestatic 176, 3) := by decide +kernel
theorem dX9_fingerprint_54 : decode cX9_fingerprint 54 = .ok (.bipush 6, 2) := by decide +kernel
theorem dX9_fingerprint_56 : decode cX9_fingerprint 56 = .ok (.iadd, 1) := by decide +kernel
theorem dX9_fingerprint_57 : decode cX9_fingerprint 57 = .ok (.laload, 1) := by decide +kernel
theorem dX9_fingerprint_58 : decode cX9_fingerprint 58 = .ok (.ladd, 1) := by decide +kernel
theorem dX9_fingerprint_59 : decode cX9_fingerprint 59 = .ok (.lstore_n 1, 1) := by decide +kernel
theorem dX9_fingerprint_60 : decode cX9_fingerprint 60 = .ok (.ldc2_w 317, 3) := by decide +kernel
theorem dX9_fingerprint_63 : decode cX9_fingerprint 63 = .ok (.lload_n 1, 1) := by decide +kernel
theorem dX9_fingerprint_64 : decode cX9_fingerprint 64 = .ok (.lmul, 1) := by decide +kernel
theorem dX9_fingerprint_65 : decode cX9_fingerprint 65 = .ok (.aload_n 0, 1) := by decide +kernel
theorem dX9_fingerprint_66 : decode cX9_fingerprint 66 = .ok (.getfield 7, 3) := by decide +kernel
theorem dX9_fingerprint_69 : decode cX9_fingerprint 69 = .ok (.iload_n 3, 1) := by decide +kernel
theorem dX9_fingerprint_70 : decode cX9_fingerprint 70 = .ok (.invokestatic 176, 3) := by decide +kernel
theorem dX9_fingerprint_73 : decode cX9_fingerprint 73 = .ok (.bipush 11, 2) := by decide +kernel
theorem dX9_fingerprint_75 : decode cX9_fingerprint 75 = .ok (.iadd, 1) := by decide +kernel
theorem dX9_fingerprint_76 : decode cX9_fingerprint 76 = .ok (.laload, 1) := by decide +kernel
theorem dX9_fingerprint_77 : decode cX9_fingerprint 77 = .ok (.ladd, 1) := by decide +kernel
theorem dX9_fingerprint_78 : decode cX9_fingerprint 78 = .ok (.lstore_n 1, 1) := by decide +kernel
theorem dX9_fingerprint_79 : decode cX9_fingerprint 79 = .ok (.iconst 0, 1) := by decide +kernel
theorem dX9_fingerprint_80 : decode cX9_fingerprint 80 = .ok (.istore 4, 2) := by decide +kernel
theorem dX9_fingerprint_82 : decode cX9_fingerprint 82 = .ok (.iload 4, 2) := by decide +kernel
theorem dX9_fingerprint_84 : decode cX9_fingerprint 84 = .ok (.i2l, 1) := by decide +kernel
theorem dX9_fingerprint_85 : decode cX9_fingerprint 85 = .ok (.aload_n 0, 1) := by decide +kernel
theorem dX9_fingerprint_86 : decode cX9_fingerprint 86 = .ok (.getfield 7, 3) := by decide +kernel
theorem dX9_fingerprint_89 : decode cX9_fingerprint 89 = .ok (.iload_n 3, 1) := by decide +kernel
theorem dX9_fingerprint_90 : decode cX9_fingerprint 90 = .ok (.invokestatic 176, 3) := by decide +kernel
theorem dX9_fingerprint_93 : decode cX9_fingerprint 93 = .ok (.bipush 11, 2) := by decide +kernel
theorem dX9_fingerprint_95 : decode cX9_fingerprint 95 = .ok (.iadd, 1) := by decide +kernel
theorem dX9_fingerprint_96 : decode cX9_fingerprint 96 = .ok (.laload, 1) := by decide +kernel
theorem dX9_fingerprint_97 : decode cX9_fingerprint 97 = .ok (.lcmp, 1) := by decide +kernel
theorem dX9_fingerprint_98 : decode cX9_fingerprint 98 = .ok (.ifCond .ge 54, 3) := by decide +kernel
theorem dX9_fingerprint_101 : decode cX9_fingerprint 101 = .ok (.iload_n 3, 1) := by decide +kernel
theorem dX9_fingerprint_102 : decode cX9_fingerprint 102 = .ok (.aload_n 0, 1) := by decide +kernel
theorem dX9_fingerprint_103 : decode cX9_fingerprint 103 = .ok (.iload_n 3, 1) := by decide +kernel
theorem dX9_fingerprint_104 : decode cX9_fingerprint 104 = .ok (.iload 4, 2) := by decide +kernel
theorem dX9_fingerprint_106 : decode cX9_fingerprint 106 = .ok (.invokevirtual 250, 3) := by decide +kernel
theorem dX9_fingerprint_109 : decode cX9_fingerprint 109 = .ok (.invokestatic 215, 3) := by decide +kernel
theorem dX9_fingerprint_112 : decode cX9_fingerprint 112 = .ok (.istore 5, 2) := by decide +kernel
theorem dX9_fingerprint_114 : decode cX9_fingerprint 114 = .ok (.ldc2_w 317, 3) := by decide +kernel
theorem dX9_fingerprint_117 : decode cX9_fingerprint 117 = .ok (.lload_n 1, 1) := by decide +kernel
theorem dX9_fingerprint_118 : decode cX9_fingerprint 118 = .ok (.lmul, 1) := by decide +kernel
theorem dX9_fingerprint_119 : decode cX9_fingerprint 119 = .ok (.aload_n 0, 1) := by decide +kernel
theorem dX9_fingerprint_120 : decode cX9_fingerprint 120 = .ok (.getfield 7, 3) := by decide +kernel
theorem dX9_fingerprint_123 : decode cX9_fingerprint 123 = .ok (.iload 5, 2) := by decide +kernel
theorem dX9_fingerprint_125 : decode cX9_fingerprint 125 = .ok (.iconst 0, 1) := by decide +kernel
theorem dX9_fingerprint_126 : decode cX9_fingerprint 126 = .ok (.iadd, 1) := by decide +kernel
theorem dX9_fingerprint_127 : decode cX9_fingerprint 127 = .ok (.laload, 1) := by decide +kernel
theorem dX9_fingerprint_128 : decode cX9_fingerprint 128 = .ok (.ladd, 1) := by decide +kernel
theorem dX9_fingerprint_129 : decode cX9_fingerprint 129 = .ok (.lstore_n 1, 1) := by decide +kernel
theorem dX9_fingerprint_130 : decode cX9_fingerprint 130 = .ok (.ldc2_w 317, 3) := by decide +kernel
theorem dX9_fingerprint_133 : decode cX9_fingerprint 133 = .ok (.lload_n 1, 1) := by decide +kernel
theorem dX9_fingerprint_134 : decode cX9_fingerprint 134 = .ok (.lmul, 1) := by decide +kernel
theorem dX9_fingerprint_135 : decode cX9_fingerprint 135 = .ok (.aload_n 0, 1) := by decide +kernel
theorem dX9_fingerprint_136 : decode cX9_fingerprint 136 = .ok (.getfield 7, 3) := by decide +kernel
theorem dX9_fingerprint_139 : decode cX9_fingerprint 139 = .ok (.iload 5, 2) := by decide +kernel
theorem dX9_fingerprint_141 : decode cX9_fingerprint 141 = .ok (.iconst 1, 1) := by decide +kernel
theorem dX9_fingerprint_142 : decode cX9_fingerprint 142 = .ok (.iadd, 1) := by decide +kernel
theorem dX9_fingerprint_143 : decode cX9_fingerprint 143 = .ok (.laload, 1) := by decide +kernel
theorem dX9_fingerprint_144 : decode cX9_fingerprint 144 = .ok (.ladd, 1) := by decide +kernel
theorem dX9_fingerprint_145 : decode cX9_fingerprint 145 = .ok (.lstore_n 1, 1) := by decide +kernel
theorem dX9_fingerprint_146 : decode cX9_fingerprint 146 = .ok (.iinc 4 1, 3) := by decide +kernel
theorem dX9_fingerprint_149 : decode cX9_fingerprint 149 = .ok (.goto (-67), 3) := by decide +kernel
theorem dX9_fingerprint_152 : decode cX9_fingerprint 152 = .ok (.iinc 3 1, 3) := by decide +kernel
theorem dX9_fingerprint_155 : decode cX9_fingerprint 155 = .ok (.goto (-126), 3) := by decide +kernel
theorem dX9_fingerprint_158 : decode cX9_fingerprint 158 = .ok (.iconst 0, 1) := by decide +kernel
theorem dX9_fingerprint_159 : decode cX9_fingerprint 159 = .ok (.istore_n 3, 1) := by decide +kernel
theorem dX9_fingerprint_160 : decode cX9_fingerprint 160 = .ok (.iload_n 3, 1) := by decide +kernel
theorem dX9_fingerprint_161 : decode cX9_fingerprint 161 = .ok (.bipush 16, 2) := by decide +kernel
theorem dX9_fingerprint_163 : decode cX9_fingerprint 163 = .ok (.if_icmp .ge 82, 3) := by decide +kernel
theorem dX9_fingerprint_166 : decode cX9_fingerprint 166 = .ok (.ldc2_w 317, 3) := by decide +kernel
theorem dX9_fingerprint_169 : decode cX9_fingerprint 169 = .ok (.lload_n 1, 1) := by decide +kernel
theorem dX9_fingerprint_170 : decode cX9_fingerprint 170 = .ok (.lmul, 1) := by decide +kernel
theorem dX9_fingerprint_171 : decode cX9_fingerprint 171 = .ok (.aload_n 0, 1) := by decide +kernel
theorem dX9_fingerprint_172 : decode cX9_fingerprint 172 = .ok (.getfield 7, 3) := by decide +kernel
theorem dX9_fingerprint_175 : decode cX9_fingerprint 175 = .ok (.iload_n 3, 1) := by decide +kernel
theorem dX9_fingerprint_176 : decode cX9_fingerprint 176 = .ok (.invokestatic 179, 3) := by decide +kernel
theorem dX9_fingerprint_179 : decode cX9_fingerprint 179 = .ok (.iconst 2, 1) := by decide +kernel
theorem dX9_fingerprint_180 : decode cX9_fingerprint 180 = .ok (.iadd, 1) := by decide +kernel
theorem dX9_fingerprint_181 : decode cX9_fingerprint 181 = .ok (.laload, 1) := by decide +kernel
theorem dX9_fingerprint_182 : decode cX9_fingerprint 182 = .ok (.ladd, 1) := by decide +kernel
theorem dX9_fingerprint_183 : decode cX9_fingerprint 183 = .ok (.lstore_n 1, 1) := by decide +kernel
theorem dX9_fingerprint_184 : decode cX9_fingerprint 184 = .ok (.ldc2_w 317, 3) := by decide +kernel
theorem dX9_fingerprint_187 : decode cX9_fingerprint 187 = .ok (.lload_n 1, 1) := by decide +kernel
theorem dX9_fingerprint_188 : decode cX9_fingerprint 188 = .ok (.lmul, 1) := by decide +kernel
theorem dX9_fingerprint_189 : decode cX9_fingerprint 189 = .ok (.aload_n 0, 1) := by decide +kernel
theorem dX9_fingerprint_190 : decode cX9_fingerprint 190 = .ok (.getfield 7, 3) := by decide +kernel
theorem dX9_fingerprint_193 : decode cX9_fingerprint 193 = .ok (.iload_n 3, 1) := by decide +kernel
theorem dX9_fingerprint_194 : decode cX9_fingerprint 194 = .ok (.invokestatic 179, 3) := by decide +kernel
theorem dX9_fingerprint_197 : decode cX9_fingerprint 197 = .ok (.iconst 3, 1) := by decide +kernel
theorem dX9_fingerprint_198 : decode cX9_fingerprint 198 = .ok (.iadd, 1) := by decide +kernel
theorem dX9_fingerprint_199 : decode cX9_fingerprint 199 = .ok (.laload, 1) := by decide +kernel
theorem dX9_fingerprint_200 : decode cX9_fingerprint 200 = .ok (.ladd, 1) := by decide +kernel
theorem dX9_fingerprint_201 : decode cX9_fingerprint 201 = .ok (.lstore_n 1, 1) := by decide +kernel
theorem dX9_fingerprint_202 : decode cX9_fingerprint 202 = .ok (.ldc2_w 317, 3) := by decide +kernel
theorem dX9_fingerprint_205 : decode cX9_fingerprint 205 = .ok (.lload_n 1, 1) := by decide +kernel
theorem dX9_fingerprint_206 : decode cX9_fingerprint 206 = .ok (.lmul, 1) := by decide +kernel
theorem dX9_fingerprint_207 : decode cX9_fingerprint 207 = .ok (.aload_n 0, 1) := by decide +kernel
theorem dX9_fingerprint_208 : decode cX9_fingerprint 208 = .ok (.getfield 7, 3) := by decide +kernel
theorem dX9_fingerprint_211 : decode cX9_fingerprint 211 = .ok (.iload_n 3, 1) := by decide +kernel
theorem dX9_fingerprint_212 : decode cX9_fingerprint 212 = .ok (.invokestatic 179, 3) := by decide +kernel
theorem dX9_fingerprint_215 : decode cX9_fingerprint 215 = .ok (.iconst 4, 1) := by decide +kernel
theorem dX9_fingerprint_216 : decode cX9_fingerprint 216 = .ok (.iadd, 1) := by decide +kernel
theorem dX9_fingerprint_217 : decode cX9_fingerprint 217 = .ok (.laload, 1) := by decide +kernel
theorem dX9_fingerprint_218 : decode cX9_fingerprint 218 = .ok (.ladd, 1) := by decide +kernel
theorem dX9_fingerprint_219 : decode cX9_fingerprint 219 = .ok (.lstore_n 1, 1) := by decide +kernel
theorem dX9_fingerprint_220 : decode cX9_fingerprint 220 = .ok (.ldc2_w 317, 3) := by decide +kernel
theorem dX9_fingerprint_223 : decode cX9_fingerprint 223 = .ok (.lload_n 1, 1) := by decide +kernel
theorem dX9_fingerprint_224 : decode cX9_fingerprint 224 = .ok (.lmul, 1) := by decide +kernel
theorem dX9_fingerprint_225 : decode cX9_fingerprint 225 = .ok (.aload_n 0, 1) := by decide +kernel
theorem dX9_fingerprint_226 : decode cX9_fingerprint 226 = .ok (.getfield 7, 3) := by decide +kernel
theorem dX9_fingerprint_229 : decode cX9_fingerprint 229 = .ok (.iload_n 3, 1) := by decide +kernel
theorem dX9_fingerprint_230 : decode cX9_fingerprint 230 = .ok (.invokestatic 179, 3) := by decide +kernel
theorem dX9_fingerprint_233 : decode cX9_fingerprint 233 = .ok (.bipush 6, 2) := by decide +kernel
theorem dX9_fingerprint_235 : decode cX9_fingerprint 235 = .ok (.iadd, 1) := by decide +kernel
theorem dX9_fingerprint_236 : decode cX9_fingerprint 236 = .ok (.laload, 1) := by decide +kernel
theorem dX9_fingerprint_237 : decode cX9_fingerprint 237 = .ok (.ladd, 1) := by decide +kernel
theorem dX9_fingerprint_238 : decode cX9_fingerprint 238 = .ok (.lstore_n 1, 1) := by decide +kernel
theorem dX9_fingerprint_239 : decode cX9_fingerprint 239 = .ok (.iinc 3 1, 3) := by decide +kernel
theorem dX9_fingerprint_242 : decode cX9_fingerprint 242 = .ok (.goto (-82), 3) := by decide +kernel
theorem dX9_fingerprint_245 : decode cX9_fingerprint 245 = .ok (.lload_n 1, 1) := by decide +kernel
theorem dX9_fingerprint_246 : decode cX9_fingerprint 246 = .ok (.lreturn, 1) := by decide +kernel
theorem dJ11_isValidCodePoint_9a6ad_0 : decode cJ11_isValidCodePoint_9a6ad 0 = .ok (.iload_n 0, 1) := by decide +kernel
theorem dJ11_isValidCodePoint_9a6ad_1 : decode cJ11_isValidCodePoint_9a6ad 1 = .ok (.bipush 16, 2) := by decide +kernel
theorem dJ11_isValidCodePoint_9a6ad_3 : decode cJ11_isValidCodePoint_9a6ad 3 = .ok (.iushr, 1) := by decide +kernel
theorem dJ11_isValidCodePoint_9a6ad_4 : decode cJ11_isValidCodePoint_9a6ad 4 = .ok (.istore_n 1, 1) := by decide +kernel
theorem dJ11_isValidCodePoint_9a6ad_5 : decode cJ11_isValidCodePoint_9a6ad 5 = .ok (.iload_n 1, 1) := by decide +kernel
theorem dJ11_isValidCodePoint_9a6ad_6 : decode cJ11_isValidCodePoint_9a6ad 6 = .ok (.bipush 17, 2) := by decide +kernel
theorem dJ11_isValidCodePoint_9a6ad_8 : decode cJ11_isValidCodePoint_9a6ad 8 = .ok (.if_icmp .ge 7, 3) := by decide +kernel
theorem dJ11_isValidCodePoint_9a6ad_11 : decode cJ11_isValidCodePoint_9a6ad 11 = .ok (.iconst 1, 1) := by decide +kernel
theorem dJ11_isValidCodePoint_9a6ad_12 : decode cJ11_isValidCodePoint_9a6ad 12 = .ok (.goto 4, 3) := by decide +kernel
theorem dJ11_isValidCodePoint_9a6ad_15 : decode cJ11_isValidCodePoint_9a6ad 15 = .ok (.iconst 0, 1) := by decide +kernel
theorem dJ11_isValidCodePoint_9a6ad_16 : decode cJ11_isValidCodePoint_9a6ad 16 = .ok (.ireturn, 1) := by decide +kernel
theorem dJ11_highSurrogate_5068e_0 : decode cJ11_highSurrogate_5068e 0 = .ok (.iload_n 0, 1) := by decide +kernel
theorem dJ11_highSurrogate_5068e_1 : decode cJ11_highSurrogate_5068e 1 = .ok (.bipush 10, 2) := by decide +kernel
theorem dJ11_highSurrogate_5068e_3 : decode cJ11_highSurrogate_5068e 3 = .ok (.iushr, 1) := by decide +kernel
theorem dJ11_highSurrogate_5068e_4 : decode cJ11_highSurrogate_5068e 4 = .ok (.ldc 110, 2) := by decide +kernel
theorem dJ11_highSurrogate_5068e_6 : decode cJ11_highSurrogate_5068e 6 = .ok (.iadd, 1) := by decide +kernel
theorem dJ11_highSurrogate_5068e_7 : decode cJ11_highSurrogate_5068e 7 = .ok (.i2c, 1) := by decide +kernel
theorem dJ11_highSurrogate_5068e_8 : decode cJ11_highSurrogate_5068e 8 = .ok (.ireturn, 1) := by decide +kernel
theorem dJ11_lowSurrogate_5068e_0 : decode cJ11_lowSurrogate_5068e 0 = .ok (.iload_n 0, 1) := by decide +kernel
theorem dJ11_lowSurrogate_5068e_1 : decode cJ11_lowSurrogate_5068e 1 = .ok (.sipush 1023, 3) := by decide +kernel
theorem dJ11_lowSurrogate_5068e_4 : decode cJ11_lowSurrogate_5068e 4 = .ok (.iand, 1) := by decide +kernel
theorem dJ11_lowSurrogate_5068e_5 : decode cJ11_lowSurrogate_5068e 5 = .ok (.ldc 76, 2) := by decide +kernel
theorem dJ11_lowSurrogate_5068e_7 : decode cJ11_lowSurrogate_5068e 7 = .ok (.iadd, 1) := by decide +kernel
theorem dJ11_lowSurrogate_5068e_8 : decode cJ11_lowSurrogate_5068e 8 = .ok (.i2c, 1) := by decide +kernel
theorem dJ11_lowSurrogate_5068e_9 : decode cJ11_lowSurrogate_5068e 9 = .ok (.ireturn, 1) := by decide +kernel
theorem dJ9_max_7cf53_0 : decode cJ9_max_7cf53 0 = .ok (.iload_n 0, 1) := by decide +kernel
theorem dJ9_max_7cf53_1 : decode cJ9_max_7cf53 1 = .ok (.iload_n 1, 1) := by decide +kernel
theorem dJ9_max_7cf53_2 : decode cJ9_max_7cf53 2 = .ok (.if_icmp .lt 7, 3) := by decide +kernel
theorem dJ9_max_7cf53_5 : decode cJ9_max_7cf53 5 = .ok (.iload_n 0, 1) := by decide +kernel
theorem dJ9_max_7cf53_6 : decode cJ9_max_7cf53 6 = .ok (.goto 4, 3) := by decide +kernel
theorem dJ9_max_7cf53_9 : decode cJ9_max_7cf53 9 = .ok (.iload_n 1, 1) := by decide +kernel
theorem dJ9_max_7cf53_10 : decode cJ9_max_7cf53 10 = .ok (.ireturn, 1) := by decide +kernel
theorem dJ9_max_f86c9_0 : decode cJ9_max_f86c9 0 = .ok (.lload_n 0, 1) := by decide +kernel
theorem dJ9_max_f86c9_1 : decode cJ9_max_f86c9 1 = .ok (.lload_n 2, 1) := by decide +kernel
theorem dJ9_max_f86c9_2 : decode cJ9_max_f86c9 2 = .ok (.lcmp, 1) := by decide +kernel
theorem dJ9_max_f86c9_3 : decode cJ9_max_f86c9 3 = .ok (.ifCond .lt 7, 3) := by decide +kernel
theorem dJ9_max_f86c9_6 : decode cJ9_max_f86c9 6 = .ok (.lload_n 0, 1) := by decide +kernel
theorem dJ9_max_f86c9_7 : decode cJ9_max_f86c9 7 = .ok (.goto 4, 3) := by decide +kernel
theorem dJ9_max_f86c9_10 : decode cJ9_max_f86c9 10 = .ok (.lload_n 2, 1) := by decide +kernel
theorem dJ9_max_f86c9_11 : decode cJ9_max_f86c9 11 = .ok (.lreturn, 1) := by decide +kernel
theorem dJ9_min_7cf53_0 : decode cJ9_min_7cf53 0 = .ok (.iload_n 0, 1) := by decide +kernel
theorem dJ9_min_7cf53_1 : decode cJ9_min_7cf53 1 = .ok (.iload_n 1, 1) := by decide +kernel
theorem dJ9_min_7cf53_2 : decode cJ9_min_7cf53 2 = .ok (.if_icmp .gt 7, 3) := by decide +kernel
theorem dJ9_min_7cf53_5 : decode cJ9_min_7cf53 5 = .ok (.iload_n 0, 1) := by decide +kernel
theorem dJ9_min_7cf53_6 : decode cJ9_min_7cf53 6 = .ok (.goto 4, 3) := by decide +kernel
theorem dJ9_min_7cf53_9 : decode cJ9_min_7cf53 9 = .ok (.iload_n 1, 1) := by decide +kernel
theorem dJ9_min_7cf53_10 : decode cJ9_min_7cf53 10 = .ok (.ireturn, 1) := by decide +kernel
theorem dJ0_length_8abf5_0 : decode cJ0_length_8abf5 0 = .ok (.aload_n 0, 1) := by decide +kernel
theorem dJ0_length_8abf5_1 : decode cJ0_length_8abf5 1 = .ok (.getfield 9, 3) := by decide +kernel
theorem dJ0_length_8abf5_4 : decode cJ0_length_8abf5 4 = .ok (.arraylength, 1) := by decide +kernel
theorem dJ0_length_8abf5_5 : decode cJ0_length_8abf5 5 = .ok (.aload_n 0, 1) := by decide +kernel
theorem dJ0_length_8abf5_6 : decode cJ0_length_8abf5 6 = .ok (.invokevirtual 335, 3) := by decide +kernel
theorem dJ0_length_8abf5_9 : decode cJ0_length_8abf5 9 = .ok (.ishr, 1) := by decide +kernel
theorem dJ0_length_8abf5_10 : decode cJ0_length_8abf5 10 = .ok (.ireturn, 1) := by decide +kernel
theorem dJ0_charAt_5068e_0 : decode cJ0_charAt_5068e 0 = .ok (.aload_n 0, 1) := by decide +kernel
theorem dJ0_charAt_5068e_1 : decode cJ0_charAt_5068e 1 = .ok (.invokevirtual 492, 3) := by decide +kernel
theorem dJ0_charAt_5068e_4 : decode cJ0_charAt_5068e 4 = .ok (.ifCond .eq 12, 3) := by decide +kernel
theorem dJ0_charAt_5068e_7 : decode cJ0_charAt_5068e 7 = .ok (.aload_n 0, 1) := by decide +kernel
theorem dJ0_charAt_5068e_8 : decode cJ0_charAt_5068e 8 = .ok (.getfield 9, 3) := by decide +kernel
theorem dJ0_charAt_5068e_11 : decode cJ0_charAt_5068e 11 = .ok (.iload_n 1, 1) := by decide +kernel
theorem dJ0_charAt_5068e_12 : decode cJ0_charAt_5068e 12 = .ok (.invokestatic 495, 3) := by decide +kernel
theorem dJ0_charAt_5068e_15 : decode cJ0_charAt_5068e 15 = .ok (.ireturn, 1) := by decide +kernel
theorem dJ0_charAt_5068e_16 : decode cJ0_charAt_5068e 16 = .ok (.aload_n 0, 1) := by decide +kernel
theorem dJ0_charAt_5068e_17 : decode cJ0_charAt_5068e 17 = .ok (.getfield 9, 3) := by decide +kernel
theorem dJ0_charAt_5068e_20 : decode cJ0_charAt_5068e 20 = .ok (.iload_n 1, 1) := by decide +kernel
theorem dJ0_charAt_5068e_21 : decode cJ0_charAt_5068e 21 = .ok (.invokestatic 498, 3) := by decide +kernel
theorem dJ0_charAt_5068e_24 : decode cJ0_charAt_5068e 24 = .ok (.ireturn, 1) := by decide +kernel
theorem dJ0_indexOf_0f7a4_0 : decode cJ0_indexOf_0f7a4 0 = .ok (.aload_n 0, 1) := by decide +kernel
theorem dJ0_indexOf_0f7a4_1 : decode cJ0_indexOf_0f7a4 1 = .ok (.iload_n 1, 1) := by decide +kernel
theorem dJ0_indexOf_0f7a4_2 : decode cJ0_indexOf_0f7a4 2 = .ok (.iconst 0, 1) := by decide +kernel
theorem dJ0_indexOf_0f7a4_3 : decode cJ0_indexOf_0f7a4 3 = .ok (.invokevirtual 633, 3) := by decide +kernel
theorem dJ0_indexOf_0f7a4_6 : decode cJ0_indexOf_0f7a4 6 = .ok (.ireturn, 1) := by decide +kernel
theorem dJ0_indexOf_7cf53_0 : decode cJ0_indexOf_7cf53 0 = .ok (.aload_n 0, 1) := by decide +kernel
theorem dJ0_indexOf_7cf53_1 : decode cJ0_indexOf_7cf53 1 = .ok (.invokevirtual 492, 3) := by decide +kernel
theorem dJ0_indexOf_7cf53_4 : decode cJ0_indexOf_7cf53 4 = .ok (.ifCond .eq 19, 3) := by decide +kernel
theorem dJ0_indexOf_7cf53_7 : decode cJ0_indexOf_7cf53 7 = .ok (.aload_n 0, 1) := by decide +kernel
theorem dJ0_indexOf_7cf53_8 : decode cJ0_indexOf_7cf53 8 = .ok (.getfield 9, 3) := by decide +kernel
theorem dJ0_indexOf_7cf53_11 : decode cJ0_indexOf_7cf53 11 = .ok (.iload_n 1, 1) := by decide +kernel
theorem dJ0_indexOf_7cf53_12 : decode cJ0_indexOf_7cf53 12 = .ok (.iload_n 2, 1) := by decide +kernel
theorem dJ0_indexOf_7cf53_13 : decode cJ0_indexOf_7cf53 13 = .ok (.aload_n 0, 1) := by decide +kernel
theorem dJ0_indexOf_7cf53_14 : decode cJ0_indexOf_7cf53 14 = .ok (.invokevirtual 505, 3) := by decide +kernel
theorem dJ0_indexOf_7cf53_17 : decode cJ0_indexOf_7cf53 17 = .ok (.invokestatic 637, 3) := by decide +kernel
theorem dJ0_indexOf_7cf53_20 : decode cJ0_indexOf_7cf53 20 = .ok (.goto 16, 3) := by decide +kernel
theorem dJ0_indexOf_7cf53_23 : decode cJ0_indexOf_7cf53 23 = .ok (.aload_n 0, 1) := by decide +kernel
theorem dJ0_indexOf_7cf53_24 : decode cJ0_indexOf_7cf53 24 = .ok (.getfield 9, 3) := by decide +kernel
theorem dJ0_indexOf_7cf53_27 : decode cJ0_indexOf_7cf53 27 = .ok (.iload_n 1, 1) := by decide +kernel
theorem dJ0_indexOf_7cf53_28 : decode cJ0_indexOf_7cf53 28 = .ok (.iload_n 2, 1) := by decide +kernel
theorem dJ0_indexOf_7cf53_29 : decode cJ0_indexOf_7cf53 29 = .ok (.aload_n 0, 1) := by decide +kernel
theorem dJ0_indexOf_7cf53_30 : decode cJ0_indexOf_7cf53 30 = .ok (.invokevirtual 505, 3) := by decide +kernel
theorem dJ0_indexOf_7cf53_33 : decode cJ0_indexOf_7cf53 33 = .ok (.invokestatic 640, 3) := by decide +kernel
theorem dJ0_indexOf_7cf53_36 : decode cJ0_indexOf_7cf53 36 = .ok (.ireturn, 1) := by decide +kernel
theorem dJ0_coder_7d493_0 : decode cJ0_coder_7d493 0 = .ok (.getstatic 38, 3) := by decide +kernel
theorem dJ0_coder_7d493_3 : decode cJ0_coder_7d493 3 = .ok (.ifCond .eq 10, 3) := by decide +kernel
theorem dJ0_coder_7d493_6 : decode cJ0_coder_7d493 6 = .ok (.aload_n 0, 1) := by decide +kernel
theorem dJ0_coder_7d493_7 : decode cJ0_coder_7d493 7 = .ok (.getfield 15, 3) := by decide +kernel
theorem dJ0_coder_7d493_10 : decode cJ0_coder_7d493 10 = .ok (.goto 4, 3) := by decide +kernel
theorem dJ0_coder_7d493_13 : decode cJ0_coder_7d493 13 = .ok (.iconst 1, 1) := by decide +kernel
theorem dJ0_coder_7d493_14 : decode cJ0_coder_7d493 14 = .ok (.ireturn, 1) := by decide +kernel
theorem dJ0_isLatin1_aae02_0 : decode cJ0_isLatin1_aae02 0 = .ok (.getstatic 38, 3) := by decide +kernel
theorem dJ0_isLatin1_aae02_3 : decode cJ0_isLatin1_aae02 3 = .ok (.ifCond .eq 14, 3) := by decide +kernel
theorem dJ0_isLatin1_aae02_6 : decode cJ0_isLatin1_aae02 6 = .ok (.aload_n 0, 1) := by decide +kernel
theorem dJ0_isLatin1_aae02_7 : decode cJ0_isLatin1_aae02 7 = .ok (.getfield 15, 3) := by decide +kernel
theorem dJ0_isLatin1_aae02_10 : decode cJ0_isLatin1_aae02 10 = .ok (.ifCond .ne 7, 3) := by decide +kernel
theorem dJ0_isLatin1_aae02_13 : decode cJ0_isLatin1_aae02 13 = .ok (.iconst 1, 1) := by decide +kernel
theorem dJ0_isLatin1_aae02_14 : decode cJ0_isLatin1_aae02 14 = .ok (.goto 4, 3) := by decide +kernel
theorem dJ0_isLatin1_aae02_17 : decode cJ0_isLatin1_aae02 17 = .ok (.iconst 0, 1) := by decide +kernel
theorem dJ0_isLatin1_aae02_18 : decode cJ0_isLatin1_aae02 18 = .ok (.ireturn, 1) := by decide +kernel
theorem dJ0_checkIndex_df160_0 : decode cJ0_checkIndex_df160 0 = .ok (.iload_n 0, 1) := by decide +kernel
theorem dJ0_checkIndex_df160_1 : decode cJ0_checkIndex_df160 1 = .ok (.iload_n 1, 1) := by decide +kernel
theorem dJ0_checkIndex_df160_2 : decode cJ0_checkIndex_df160 2 = .ok (.getstatic 1053, 3) := by decide +kernel
theorem dJ0_checkIndex_df160_5 : decode cJ0_checkIndex_df160 5 = .ok (.invokestatic 1059, 3) := by decide +kernel
theorem dJ0_checkIndex_df160_8 : decode cJ0_checkIndex_df160 8 = .ok (.pop, 1) := by decide +kernel
theorem dJ0_checkIndex_df160_9 : decode cJ0_checkIndex_df160 9 = .ok (.return_, 1) := by decide +kernel
theorem dJ0_checkBoundsBeginEnd_23922_0 : decode cJ0_checkBoundsBeginEnd_23922 0 = .ok (.iload_n 0, 1) := by decide +kernel
theorem dJ0_checkBoundsBeginEnd_23922_1 : decode cJ0_checkBoundsBeginEnd_23922 1 = .ok (.iload_n 1, 1) := by decide +kernel
theorem dJ0_checkBoundsBeginEnd_23922_2 : decode cJ0_checkBoundsBeginEnd_23922 2 = .ok (.iload_n 2, 1) := by decide +kernel
theorem dJ0_checkBoundsBeginEnd_23922_3 : decode cJ0_checkBoundsBeginEnd_23922 3 = .ok (.getstatic 1053, 3) := by decide +kernel
theorem dJ0_checkBoundsBeginEnd_23922_6 : decode cJ0_checkBoundsBeginEnd_23922 6 = .ok (.invokestatic 1062, 3) := by decide +kernel
theorem dJ0_checkBoundsBeginEnd_23922_9 : decode cJ0_checkBoundsBeginEnd_23922 9 = .ok (.pop, 1) := by decide +kernel
theorem dJ0_checkBoundsBeginEnd_23922_10 : decode cJ0_checkBoundsBeginEnd_23922 10 = .ok (.return_, 1) := by decide +kernel
theorem dJ1_charAt_3b067_0 : decode cJ1_charAt_3b067 0 = .ok (.iload_n 1, 1) := by decide +kernel
theorem dJ1_charAt_3b067_1 : decode cJ1_charAt_3b067 1 = .ok (.aload_n 0, 1) := by decide +kernel
theorem dJ1_charAt_3b067_2 : decode cJ1_charAt_3b067 2 = .ok (.arraylength, 1) := by decide +kernel
theorem dJ1_charAt_3b067_3 : decode cJ1_charAt_3b067 3 = .ok (.invokestatic 9, 3) := by decide +kernel
theorem dJ1_charAt_3b067_6 : decode cJ1_charAt_3b067 6 = .ok (.aload_n 0, 1) := by decide +kernel
theorem dJ1_charAt_3b067_7 : decode cJ1_charAt_3b067 7 = .ok (.iload_n 1, 1) := by decide +kernel
theorem dJ1_charAt_3b067_8 : decode cJ1_charAt_3b067 8 = .ok (.baload, 1) := by decide +kernel
theorem dJ1_charAt_3b067_9 : decode cJ1_charAt_3b067 9 = .ok (.sipush 255, 3) := by decide +kernel
theorem dJ1_charAt_3b067_12 : decode cJ1_charAt_3b067 12 = .ok (.iand, 1) := by decide +kernel
theorem dJ1_charAt_3b067_13 : decode cJ1_charAt_3b067 13 = .ok (.i2c, 1) := by decide +kernel
theorem dJ1_charAt_3b067_14 : decode cJ1_charAt_3b067 14 = .ok (.ireturn, 1) := by decide +kernel
theorem dJ1_canEncode_9a6ad_0 : decode cJ1_canEncode_9a6ad 0 = .ok (.iload_n 0, 1) := by decide +kernel
theorem dJ1_canEncode_9a6ad_1 : decode cJ1_canEncode_9a6ad 1 = .ok (.ifCond .lt 14, 3) := by decide +kernel
theorem dJ1_canEncode_9a6ad_4 : decode cJ1_canEncode_9a6ad 4 = .ok (.iload_n 0, 1) := by decide +kernel
theorem dJ1_canEncode_9a6ad_5 : decode cJ1_canEncode_9a6ad 5 = .ok (.sipush 255, 3) := by decide +kernel
theorem dJ1_canEncode_9a6ad_8 : decode cJ1_canEncode_9a6ad 8 = .ok (.if_icmp .gt 7, 3) := by decide +kernel
theorem dJ1_canEncode_9a6ad_11 : decode cJ1_canEncode_9a6ad 11 = .ok (.iconst 1, 1) := by decide +kernel
theorem dJ1_canEncode_9a6ad_12 : decode cJ1_canEncode_9a6ad 12 = .ok (.goto 4, 3) := by decide +kernel
theorem dJ1_canEncode_9a6ad_15 : decode cJ1_canEncode_9a6ad 15 = .ok (.iconst 0, 1) := by decide +kernel
theorem dJ1_canEncode_9a6ad_16 : decode cJ1_canEncode_9a6ad 16 = .ok (.ireturn, 1) := by decide +kernel
theorem dJ1_indexOf_4cfef_0 : decode cJ1_indexOf_4cfef 0 = .ok (.iload_n 1, 1) := by decide +kernel
theorem dJ1_indexOf_4cfef_1 : decode cJ1_indexOf_4cfef 1 = .ok (.invokestatic 88, 3) := by decide +kernel
theorem dJ1_indexOf_4cfef_4 : decode cJ1_indexOf_4cfef 4 = .ok (.ifCond .ne 5, 3) := by decide +kernel
theorem dJ1_indexOf_4cfef_7 : decode cJ1_indexOf_4cfef 7 = .ok (.iconst (-1), 1) := by decide +kernel
theorem dJ1_indexOf_4cfef_8 : decode cJ1_indexOf_4cfef 8 = .ok (.ireturn, 1) := by decide +kernel
theorem dJ1_indexOf_4cfef_9 : decode cJ1_indexOf_4cfef 9 = .ok (.iload_n 2, 1) := by decide +kernel
theorem dJ1_indexOf_4cfef_10 : decode cJ1_indexOf_4cfef 10 = .ok (.iconst 0, 1) := by decide +kernel
theorem dJ1_indexOf_4cfef_11 : decode cJ1_indexOf_4cfef 11 = .ok (.invokestatic 92, 3) := by decide +kernel
theorem dJ1_indexOf_4cfef_14 : decode cJ1_indexOf_4cfef 14 = .ok (.istore_n 2, 1) := by decide +kernel
theorem dJ1_indexOf_4cfef_15 : decode cJ1_indexOf_4cfef 15 = .ok (.iload_n 3, 1) := by decide +kernel
theorem dJ1_indexOf_4cfef_16 : decode cJ1_indexOf_4cfef 16 = .ok (.aload_n 0, 1) := by decide +kernel
theorem dJ1_indexOf_4cfef_17 : decode cJ1_indexOf_4cfef 17 = .ok (.arraylength, 1) := by decide +kernel
theorem dJ1_indexOf_4cfef_18 : decode cJ1_indexOf_4cfef 18 = .ok (.invokestatic 38, 3) := by decide +kernel
theorem dJ1_indexOf_4cfef_21 : decode cJ1_indexOf_4cfef 21 = .ok (.istore_n 3, 1) := by decide +kernel
theorem dJ1_indexOf_4cfef_22 : decode cJ1_indexOf_4cfef 22 = .ok (.iload_n 2, 1) := by decide +kernel
theorem dJ1_indexOf_4cfef_23 : decode cJ1_indexOf_4cfef 23 = .ok (.iload_n 3, 1) := by decide +kernel
theorem dJ1_indexOf_4cfef_24 : decode cJ1_indexOf_4cfef 24 = .ok (.if_icmp .lt 5, 3) := by decide +kernel
theorem dJ1_indexOf_4cfef_27 : decode cJ1_indexOf_4cfef 27 = .ok (.iconst (-1), 1) := by decide +kernel
theorem dJ1_indexOf_4cfef_28 : decode cJ1_indexOf_4cfef 28 = .ok (.ireturn, 1) := by decide +kernel
theorem dJ1_indexOf_4cfef_29 : decode cJ1_indexOf_4cfef 29 = .ok (.aload_n 0, 1) := by decide +kernel
theorem dJ1_indexOf_4cfef_30 : decode cJ1_indexOf_4cfef 30 = .ok (.iload_n 1, 1) := by decide +kernel
theorem dJ1_indexOf_4cfef_31 : decode cJ1_indexOf_4cfef 31 = .ok (.iload_n 2, 1) := by decide +kernel
theorem dJ1_indexOf_4cfef_32 : decode cJ1_indexOf_4cfef 32 = .ok (.iload_n 3, 1) := by decide +kernel
theorem dJ1_indexOf_4cfef_33 : decode cJ1_indexOf_4cfef 33 = .ok (.invokestatic 95, 3) := by decide +kernel
theorem dJ1_indexOf_4cfef_36 : decode cJ1_indexOf_4cfef 36 = .ok (.ireturn, 1) := by decide +kernel
theorem dJ1_indexOfChar_4cfef_0 : decode cJ1_indexOfChar_4cfef 0 = .ok (.iload_n 1, 1) := by decide +kernel
theorem dJ1_indexOfChar_4cfef_1 : decode cJ1_indexOfChar_4cfef 1 = .ok (.i2b, 1) := by decide +kernel
theorem dJ1_indexOfChar_4cfef_2 : decode cJ1_indexOfChar_4cfef 2 = .ok (.istore 4, 2) := by decide +kernel
theorem dJ1_indexOfChar_4cfef_4 : decode cJ1_indexOfChar_4cfef 4 = .ok (.iload_n 2, 1) := by decide +kernel
theorem dJ1_indexOfChar_4cfef_5 : decode cJ1_indexOfChar_4cfef 5 = .ok (.istore 5, 2) := by decide +kernel
theorem dJ1_indexOfChar_4cfef_7 : decode cJ1_indexOfChar_4cfef 7 = .ok (.iload 5, 2) := by decide +kernel
theorem dJ1_indexOfChar_4cfef_9 : decode cJ1_indexOfChar_4cfef 9 = .ok (.iload_n 3, 1) := by decide +kernel
theorem dJ1_indexOfChar_4cfef_10 : decode cJ1_indexOfChar_4cfef 10 = .ok (.if_icmp .ge 21, 3) := by decide +kernel
theorem dJ1_indexOfChar_4cfef_13 : decode cJ1_indexOfChar_4cfef 13 = .ok (.aload_n 0, 1) := by decide +kernel
theorem dJ1_indexOfChar_4cfef_14 : decode cJ1_indexOfChar_4cfef 14 = .ok (.iload 5, 2) := by decide +kernel
theorem dJ1_indexOfChar_4cfef_16 : decode cJ1_indexOfChar_4cfef 16 = .ok (.baload, 1) := by decide +kernel
theorem dJ1_indexOfChar_4cfef_17 : decode cJ1_indexOfChar_4cfef 17 = .ok (.iload 4, 2) := by decide +kernel
theorem dJ1_indexOfChar_4cfef_19 : decode cJ1_indexOfChar_4cfef 19 = .ok (.if_icmp .ne 6, 3) := by decide +kernel
theorem dJ1_indexOfChar_4cfef_22 : decode cJ1_indexOfChar_4cfef 22 = .ok (.iload 5, 2) := by decide +kernel
theorem dJ1_indexOfChar_4cfef_24 : decode cJ1_indexOfChar_4cfef 24 = .ok (.ireturn, 1) := by decide +kernel
theorem dJ1_indexOfChar_4cfef_25 : decode cJ1_indexOfChar_4cfef 25 = .ok (.iinc 5 1, 3) := by decide +kernel
theorem dJ1_indexOfChar_4cfef_28 : decode cJ1_indexOfChar_4cfef 28 = .ok (.goto (-21), 3) := by decide +kernel
theorem dJ1_indexOfChar_4cfef_31 : decode cJ1_indexOfChar_4cfef 31 = .ok (.iconst (-1), 1) := by decide +kernel
theorem dJ1_indexOfChar_4cfef_32 : decode cJ1_indexOfChar_4cfef 32 = .ok (.ireturn, 1) := by decide +kernel
theorem dJ2_getChar_3b067_0 : decode cJ2_getChar_3b067 0 = .ok (.getstatic 44, 3) := by decide +kernel
theorem dJ2_getChar_3b067_3 : decode cJ2_getChar_3b067 3 = .ok (.ifCond .ne 25, 3) := by decide +kernel
theorem dJ2_getChar_3b067_6 : decode cJ2_getChar_3b067 6 = .ok (.iload_n 1, 1) := by decide +kernel
theorem dJ2_getChar_3b067_7 : decode cJ2_getChar_3b067 7 = .ok (.ifCond .lt 11, 3) := by decide +kernel
theorem dJ2_getChar_3b067_10 : decode cJ2_getChar_3b067 10 = .ok (.iload_n 1, 1) := by decide +kernel
theorem dJ2_getChar_3b067_11 : decode cJ2_getChar_3b067 11 = .ok (.aload_n 0, 1) := by decide +kernel
theorem dJ2_getChar_3b067_12 : decode cJ2_getChar_3b067 12 = .ok (.invokestatic 48, 3) := by decide +kernel
theorem dJ2_getChar_3b067_15 : decode cJ2_getChar_3b067 15 = .ok (.if_icmp .lt 13, 3) := by decide +kernel
theorem dJ2_getChar_3b067_18 : decode cJ2_getChar_3b067 18 = .ok (.new 52, 3) := by decide +kernel
theorem dJ2_getChar_3b067_21 : decode cJ2_getChar_3b067 21 = .ok (.dup, 1) := by decide +kernel
theorem dJ2_getChar_3b067_22 : decode cJ2_getChar_3b067 22 = .ok (.ldc 54, 2) := by decide +kernel
theorem dJ2_getChar_3b067_24 : decode cJ2_getChar_3b067 24 = .ok (.invokespecial 56, 3) := by decide +kernel
theorem dJ2_getChar_3b067_27 : decode cJ2_getChar_3b067 27 = .ok (.athrow, 1) := by decide +kernel
theorem dJ2_getChar_3b067_28 : decode cJ2_getChar_3b067 28 = .ok (.iload_n 1, 1) := by decide +kernel
theorem dJ2_getChar_3b067_29 : decode cJ2_getChar_3b067 29 = .ok (.iconst 1, 1) := by decide +kernel
theorem dJ2_getChar_3b067_30 : decode cJ2_getChar_3b067 30 = .ok (.ishl, 1) := by decide +kernel
theorem dJ2_getChar_3b067_31 : decode cJ2_getChar_3b067 31 = .ok (.istore_n 1, 1) := by decide +kernel
theorem dJ2_getChar_3b067_32 : decode cJ2_getChar_3b067 32 = .ok (.aload_n 0, 1) := by decide +kernel
theorem dJ2_getChar_3b067_33 : decode cJ2_getChar_3b067 33 = .ok (.iload_n 1, 1) := by decide +kernel
theorem dJ2_getChar_3b067_34 : decode cJ2_getChar_3b067 34 = .ok (.iinc 1 1, 3) := by decide +kernel
theorem dJ2_getChar_3b067_37 : decode cJ2_getChar_3b067 37 = .ok (.baload, 1) := by decide +kernel
theorem dJ2_getChar_3b067_38 : decode cJ2_getChar_3b067 38 = .ok (.sipush 255, 3) := by decide +kernel
theorem dJ2_getChar_3b067_41 : decode cJ2_getChar_3b067 41 = .ok (.iand, 1) := by decide +kernel
theorem dJ2_getChar_3b067_42 : decode cJ2_getChar_3b067 42 = .ok (.getstatic 59, 3) := by decide +kernel
theorem dJ2_getChar_3b067_45 : decode cJ2_getChar_3b067 45 = .ok (.ishl, 1) := by decide +kernel
theorem dJ2_getChar_3b067_46 : decode cJ2_getChar_3b067 46 = .ok (.aload_n 0, 1) := by decide +kernel
theorem dJ2_getChar_3b067_47 : decode cJ2_getChar_3b067 47 = .ok (.iload_n 1, 1) := by decide +kernel
theorem dJ2_getChar_3b067_48 : decode cJ2_getChar_3b067 48 = .ok (.baload, 1) := by decide +kernel
theorem dJ2_getChar_3b067_49 : decode cJ2_getChar_3b067 49 = .ok (.sipush 255, 3) := by decide +kernel
theorem dJ2_getChar_3b067_52 : decode cJ2_getChar_3b067 52 = .ok (.iand, 1) := by decide +kernel
theorem dJ2_getChar_3b067_53 : decode cJ2_getChar_3b067 53 = .ok (.getstatic 63, 3) := by decide +kernel
theorem dJ2_getChar_3b067_56 : decode cJ2_getChar_3b067 56 = .ok (.ishl, 1) := by decide +kernel
theorem dJ2_getChar_3b067_57 : decode cJ2_getChar_3b067 57 = .ok (.ior, 1) := by decide +kernel
theorem dJ2_getChar_3b067_58 : decode cJ2_getChar_3b067 58 = .ok (.i2c, 1) := by decide +kernel
theorem dJ2_getChar_3b067_59 : decode cJ2_getChar_3b067 59 = .ok (.ireturn, 1) := by decide +kernel
theorem dJ2_length_9d52b_0 : decode cJ2_length_9d52b 0 = .ok (.aload_n 0, 1) := by decide +kernel
theorem dJ2_length_9d52b_1 : decode cJ2_length_9d52b 1 = .ok (.arraylength, 1) := by decide +kernel
theorem dJ2_length_9d52b_2 : decode cJ2_length_9d52b 2 = .ok (.iconst 1, 1) := by decide +kernel
theorem dJ2_length_9d52b_3 : decode cJ2_length_9d52b 3 = .ok (.ishr, 1) := by decide +kernel
theorem dJ2_length_9d52b_4 : decode cJ2_length_9d52b 4 = .ok (.ireturn, 1) := by decide +kernel
theorem dJ2_indexOf_4cfef_0 : decode cJ2_indexOf_4cfef 0 = .ok (.iload_n 2, 1) := by decide +kernel
theorem dJ2_indexOf_4cfef_1 : decode cJ2_indexOf_4cfef 1 = .ok (.iconst 0, 1) := by decide +kernel
theorem dJ2_indexOf_4cfef_2 : decode cJ2_indexOf_4cfef 2 = .ok (.invokestatic 224, 3) := by decide +kernel
theorem dJ2_indexOf_4cfef_5 : decode cJ2_indexOf_4cfef 5 = .ok (.istore_n 2, 1) := by decide +kernel
theorem dJ2_indexOf_4cfef_6 : decode cJ2_indexOf_4cfef 6 = .ok (.iload_n 3, 1) := by decide +kernel
theorem dJ2_indexOf_4cfef_7 : decode cJ2_indexOf_4cfef 7 = .ok (.aload_n 0, 1) := by decide +kernel
theorem dJ2_indexOf_4cfef_8 : decode cJ2_indexOf_4cfef 8 = .ok (.arraylength, 1) := by decide +kernel
theorem dJ2_indexOf_4cfef_9 : decode cJ2_indexOf_4cfef 9 = .ok (.iconst 1, 1) := by decide +kernel
theorem dJ2_indexOf_4cfef_10 : decode cJ2_indexOf_4cfef 10 = .ok (.ishr, 1) := by decide +kernel
theorem dJ2_indexOf_4cfef_11 : decode cJ2_indexOf_4cfef 11 = .ok (.invokestatic 183, 3) := by decide +kernel
theorem dJ2_indexOf_4cfef_14 : decode cJ2_indexOf_4cfef 14 = .ok (.istore_n 3, 1) := by decide +kernel
theorem dJ2_indexOf_4cfef_15 : decode cJ2_indexOf_4cfef 15 = .ok (.iload_n 2, 1) := by decide +kernel
theorem dJ2_indexOf_4cfef_16 : decode cJ2_indexOf_4cfef 16 = .ok (.iload_n 3, 1) := by decide +kernel
theorem dJ2_indexOf_4cfef_17 : decode cJ2_indexOf_4cfef 17 = .ok (.if_icmp .lt 5, 3) := by decide +kernel
theorem dJ2_indexOf_4cfef_20 : decode cJ2_indexOf_4cfef 20 = .ok (.iconst (-1), 1) := by decide +kernel
theorem dJ2_indexOf_4cfef_21 : decode cJ2_indexOf_4cfef 21 = .ok (.ireturn, 1) := by decide +kernel
theorem dJ2_indexOf_4cfef_22 : decode cJ2_indexOf_4cfef 22 = .ok (.iload_n 1, 1) := by decide +kernel
theorem dJ2_indexOf_4cfef_23 : decode cJ2_indexOf_4cfef 23 = .ok (.ldc 227, 2) := by decide +kernel
theorem dJ2_indexOf_4cfef_25 : decode cJ2_indexOf_4cfef 25 = .ok (.if_icmp .ge 11, 3) := by decide +kernel
theorem dJ2_indexOf_4cfef_28 : decode cJ2_indexOf_4cfef 28 = .ok (.aload_n 0, 1) := by decide +kernel
theorem dJ2_indexOf_4cfef_29 : decode cJ2_indexOf_4cfef 29 = .ok (.iload_n 1, 1) := by decide +kernel
theorem dJ2_indexOf_4cfef_30 : decode cJ2_indexOf_4cfef 30 = .ok (.iload_n 2, 1) := by decide +kernel
theorem dJ2_indexOf_4cfef_31 : decode cJ2_indexOf_4cfef 31 = .ok (.iload_n 3, 1) := by decide +kernel
theorem dJ2_indexOf_4cfef_32 : decode cJ2_indexOf_4cfef 32 = .ok (.invokestatic 228, 3) := by decide +kernel
theorem dJ2_indexOf_4cfef_35 : decode cJ2_indexOf_4cfef 35 = .ok (.ireturn, 1) := by decide +kernel
theorem dJ2_indexOf_4cfef_36 : decode cJ2_indexOf_4cfef 36 = .ok (.aload_n 0, 1) := by decide +kernel
theorem dJ2_indexOf_4cfef_37 : decode cJ2_indexOf_4cfef 37 = .ok (.iload_n 1, 1) := by decide +kernel
theorem dJ2_indexOf_4cfef_38 : decode cJ2_indexOf_4cfef 38 = .ok (.iload_n 2, 1) := by decide +kernel
theorem dJ2_indexOf_4cfef_39 : decode cJ2_indexOf_4cfef 39 = .ok (.iload_n 3, 1) := by decide +kernel
theorem dJ2_indexOf_4cfef_40 : decode cJ2_indexOf_4cfef 40 = .ok (.invokestatic 232, 3) := by decide +kernel
theorem dJ2_indexOf_4cfef_43 : decode cJ2_indexOf_4cfef 43 = .ok (.ireturn, 1) := by decide +kernel
theorem dJ2_indexOfChar_4cfef_0 : decode cJ2_indexOfChar_4cfef 0 = .ok (.iload_n 2, 1) := by decide +kernel
theorem dJ2_indexOfChar_4cfef_1 : decode cJ2_indexOfChar_4cfef 1 = .ok (.iload_n 3, 1) := by decide +kernel
theorem dJ2_indexOfChar_4cfef_2 : decode cJ2_indexOfChar_4cfef 2 = .ok (.aload_n 0, 1) := by decide +kernel
theorem dJ2_indexOfChar_4cfef_3 : decode cJ2_indexOfChar_4cfef 3 = .ok (.invokestatic 96, 3) := by decide +kernel
theorem dJ2_indexOfChar_4cfef_6 : decode cJ2_indexOfChar_4cfef 6 = .ok (.aload_n 0, 1) := by decide +kernel
theorem dJ2_indexOfChar_4cfef_7 : decode cJ2_indexOfChar_4cfef 7 = .ok (.iload_n 1, 1) := by decide +kernel
theorem dJ2_indexOfChar_4cfef_8 : decode cJ2_indexOfChar_4cfef 8 = .ok (.iload_n 2, 1) := by decide +kernel
theorem dJ2_indexOfChar_4cfef_9 : decode cJ2_indexOfChar_4cfef 9 = .ok (.iload_n 3, 1) := by decide +kernel
theorem dJ2_indexOfChar_4cfef_10 : decode cJ2_indexOfChar_4cfef 10 = .ok (.invokestatic 244, 3) := by decide +kernel
theorem dJ2_indexOfChar_4cfef_13 : decode cJ2_indexOfChar_4cfef 13 = .ok (.ireturn, 1) := by decide +kernel
theorem dJ2_indexOfCharUnsafe_4cfef_0 : decode cJ2_indexOfCharUnsafe_4cfef 0 = .ok (.iload_n 2, 1) := by decide +kernel
theorem dJ2_indexOfCharUnsafe_4cfef_1 : decode cJ2_indexOfCharUnsafe_4cfef 1 = .ok (.istore 4, 2) := by decide +kernel
theorem dJ2_indexOfCharUnsafe_4cfef_3 : decode cJ2_indexOfCharUnsafe_4cfef 3 = .ok (.iload 4, 2) := by decide +kernel
theorem dJ2_indexOfCharUnsafe_4cfef_5 : decode cJ2_indexOfCharUnsafe_4cfef 5 = .ok (.iload_n 3, 1) := by decide +kernel
theorem dJ2_indexOfCharUnsafe_4cfef_6 : decode cJ2_indexOfCharUnsafe_4cfef 6 = .ok (.if_icmp .ge 22, 3) := by decide +kernel
theorem dJ2_indexOfCharUnsafe_4cfef_9 : decode cJ2_indexOfCharUnsafe_4cfef 9 = .ok (.aload_n 0, 1) := by decide +kernel
theorem dJ2_indexOfCharUnsafe_4cfef_10 : decode cJ2_indexOfCharUnsafe_4cfef 10 = .ok (.iload 4, 2) := by decide +kernel
theorem dJ2_indexOfCharUnsafe_4cfef_12 : decode cJ2_indexOfCharUnsafe_4cfef 12 = .ok (.invokestatic 71, 3) := by decide +kernel
theorem dJ2_indexOfCharUnsafe_4cfef_15 : decode cJ2_indexOfCharUnsafe_4cfef 15 = .ok (.iload_n 1, 1) := by decide +kernel
theorem dJ2_indexOfCharUnsafe_4cfef_16 : decode cJ2_indexOfCharUnsafe_4cfef 16 = .ok (.if_icmp .ne 6, 3) := by decide +kernel
theorem dJ2_indexOfCharUnsafe_4cfef_19 : decode cJ2_indexOfCharUnsafe_4cfef 19 = .ok (.iload 4, 2) := by decide +kernel
theorem dJ2_indexOfCharUnsafe_4cfef_21 : decode cJ2_indexOfCharUnsafe_4cfef 21 = .ok (.ireturn, 1) := by decide +kernel
theorem dJ2_indexOfCharUnsafe_4cfef_22 : decode cJ2_indexOfCharUnsafe_4cfef 22 = .ok (.iinc 4 1, 3) := by decide +kernel
theorem dJ2_indexOfCharUnsafe_4cfef_25 : decode cJ2_indexOfCharUnsafe_4cfef 25 = .ok (.goto (-22), 3) := by decide +kernel
theorem dJ2_indexOfCharUnsafe_4cfef_28 : decode cJ2_indexOfCharUnsafe_4cfef 28 = .ok (.iconst (-1), 1) := by decide +kernel
theorem dJ2_indexOfCharUnsafe_4cfef_29 : decode cJ2_indexOfCharUnsafe_4cfef 29 = .ok (.ireturn, 1) := by decide +kernel
theorem dJ2_indexOfSupplementary_4cfef_0 : decode cJ2_indexOfSupplementary_4cfef 0 = .ok (.iload_n 1, 1) := by decide +kernel
theorem dJ2_indexOfSupplementary_4cfef_1 : decode cJ2_indexOfSupplementary_4cfef 1 = .ok (.invokestatic 164, 3) := by decide +kernel
theorem dJ2_indexOfSupplementary_4cfef_4 : decode cJ2_indexOfSupplementary_4cfef 4 = .ok (.ifCond .eq 65, 3) := by decide +kernel
theorem dJ2_indexOfSupplementary_4cfef_7 : decode cJ2_indexOfSupplementary_4cfef 7 = .ok (.iload_n 1, 1) := by decide +kernel
theorem dJ2_indexOfSupplementary_4cfef_8 : decode cJ2_indexOfSupplementary_4cfef 8 = .ok (.invokestatic 157, 3) := by decide +kernel
theorem dJ2_indexOfSupplementary_4cfef_11 : decode cJ2_indexOfSupplementary_4cfef 11 = .ok (.istore 4, 2) := by decide +kernel
theorem dJ2_indexOfSupplementary_4cfef_13 : decode cJ2_indexOfSupplementary_4cfef 13 = .ok (.iload_n 1, 1) := by decide +kernel
theorem dJ2_indexOfSupplementary_4cfef_14 : decode cJ2_indexOfSupplementary_4cfef 14 = .ok (.invokestatic 161, 3) := by decide +kernel
theorem dJ2_indexOfSupplementary_4cfef_17 : decode cJ2_indexOfSupplementary_4cfef 17 = .ok (.istore 5, 2) := by decide +kernel
theorem dJ2_indexOfSupplementary_4cfef_19 : decode cJ2_indexOfSupplementary_4cfef 19 = .ok (.iload_n 2, 1) := by decide +kernel
theorem dJ2_indexOfSupplementary_4cfef_20 : decode cJ2_indexOfSupplementary_4cfef 20 = .ok (.iload_n 3, 1) := by decide +kernel
theorem dJ2_indexOfSupplementary_4cfef_21 : decode cJ2_indexOfSupplementary_4cfef 21 = .ok (.aload_n 0, 1) := by decide +kernel
theorem dJ2_indexOfSupplementary_4cfef_22 : decode cJ2_indexOfSupplementary_4cfef 22 = .ok (.invokestatic 96, 3) := by decide +kernel
theorem dJ2_indexOfSupplementary_4cfef_25 : decode cJ2_indexOfSupplementary_4cfef 25 = .ok (.iload_n 2, 1) := by decide +kernel
theorem dJ2_indexOfSupplementary_4cfef_26 : decode cJ2_indexOfSupplementary_4cfef 26 = .ok (.istore 6, 2) := by decide +kernel
theorem dJ2_indexOfSupplementary_4cfef_28 : decode cJ2_indexOfSupplementary_4cfef 28 = .ok (.iload 6, 2) := by decide +kernel
theorem dJ2_indexOfSupplementary_4cfef_30 : decode cJ2_indexOfSupplementary_4cfef 30 = .ok (.iload_n 3, 1) := by decide +kernel
theorem dJ2_indexOfSupplementary_4cfef_31 : decode cJ2_indexOfSupplementary_4cfef 31 = .ok (.iconst 1, 1) := by decide +kernel
theorem dJ2_indexOfSupplementary_4cfef_32 : decode cJ2_indexOfSupplementary_4cfef 32 = .ok (.isub, 1) := by decide +kernel
theorem dJ2_indexOfSupplementary_4cfef_33 : decode cJ2_indexOfSupplementary_4cfef 33 = .ok (.if_icmp .ge 36, 3) := by decide +kernel
theorem dJ2_indexOfSupplementary_4cfef_36 : decode cJ2_indexOfSupplementary_4cfef 36 = .ok (.aload_n 0, 1) := by decide +kernel
theorem dJ2_indexOfSupplementary_4cfef_37 : decode cJ2_indexOfSupplementary_4cfef 37 = .ok (.iload 6, 2) := by decide +kernel
theorem dJ2_indexOfSupplementary_4cfef_39 : decode cJ2_indexOfSupplementary_4cfef 39 = .ok (.invokestatic 71, 3) := by decide +kernel
theorem dJ2_indexOfSupplementary_4cfef_42 : decode cJ2_indexOfSupplementary_4cfef 42 = .ok (.iload 4, 2) := by decide +kernel
theorem dJ2_indexOfSupplementary_4cfef_44 : decode cJ2_indexOfSupplementary_4cfef 44 = .ok (.if_icmp .ne 19, 3) := by decide +kernel
theorem dJ2_indexOfSupplementary_4cfef_47 : decode cJ2_indexOfSupplementary_4cfef 47 = .ok (.aload_n 0, 1) := by decide +kernel
theorem dJ2_indexOfSupplementary_4cfef_48 : decode cJ2_indexOfSupplementary_4cfef 48 = .ok (.iload 6, 2) := by decide +kernel
theorem dJ2_indexOfSupplementary_4cfef_50 : decode cJ2_indexOfSupplementary_4cfef 50 = .ok (.iconst 1, 1) := by decide +kernel
theorem dJ2_indexOfSupplementary_4cfef_51 : decode cJ2_indexOfSupplementary_4cfef 51 = .ok (.iadd, 1) := by decide +kernel
theorem dJ2_indexOfSupplementary_4cfef_52 : decode cJ2_indexOfSupplementary_4cfef 52 = .ok (.invokestatic 71, 3) := by decide +kernel
theorem dJ2_indexOfSupplementary_4cfef_55 : decode cJ2_indexOfSupplementary_4cfef 55 = .ok (.iload 5, 2) := by decide +kernel
theorem dJ2_indexOfSupplementary_4cfef_57 : decode cJ2_indexOfSupplementary_4cfef 57 = .ok (.if_icmp .ne 6, 3) := by decide +kernel
theorem dJ2_indexOfSupplementary_4cfef_60 : decode cJ2_indexOfSupplementary_4cfef 60 = .ok (.iload 6, 2) := by decide +kernel
theorem dJ2_indexOfSupplementary_4cfef_62 : decode cJ2_indexOfSupplementary_4cfef 62 = .ok (.ireturn, 1) := by decide +kernel
theorem dJ2_indexOfSupplementary_4cfef_63 : decode cJ2_indexOfSupplementary_4cfef 63 = .ok (.iinc 6 1, 3) := by decide +kernel
theorem dJ2_indexOfSupplementary_4cfef_66 : decode cJ2_indexOfSupplementary_4cfef 66 = .ok (.goto (-38), 3) := by decide +kernel
theorem dJ2_indexOfSupplementary_4cfef_69 : decode cJ2_indexOfSupplementary_4cfef 69 = .ok (.iconst (-1), 1) := by decide +kernel
theorem dJ2_indexOfSupplementary_4cfef_70 : decode cJ2_indexOfSupplementary_4cfef 70 = .ok (.ireturn, 1) := by decide +kernel
theorem dJ2_charAt_3b067_0 : decode cJ2_charAt_3b067 0 = .ok (.iload_n 1, 1) := by decide +kernel
theorem dJ2_charAt_3b067_1 : decode cJ2_charAt_3b067 1 = .ok (.aload_n 0, 1) := by decide +kernel
theorem dJ2_charAt_3b067_2 : decode cJ2_charAt_3b067 2 = .ok (.invokestatic 67, 3) := by decide +kernel
theorem dJ2_charAt_3b067_5 : decode cJ2_charAt_3b067 5 = .ok (.aload_n 0, 1) := by decide +kernel
theorem dJ2_charAt_3b067_6 : decode cJ2_charAt_3b067 6 = .ok (.iload_n 1, 1) := by decide +kernel
theorem dJ2_charAt_3b067_7 : decode cJ2_charAt_3b067 7 = .ok (.invokestatic 71, 3) := by decide +kernel
theorem dJ2_charAt_3b067_10 : decode cJ2_charAt_3b067 10 = .ok (.ireturn, 1) := by decide +kernel
theorem dJ2_checkIndex_2214a_0 : decode cJ2_checkIndex_2214a 0 = .ok (.iload_n 0, 1) := by decide +kernel
theorem dJ2_checkIndex_2214a_1 : decode cJ2_checkIndex_2214a 1 = .ok (.aload_n 1, 1) := by decide +kernel
theorem dJ2_checkIndex_2214a_2 : decode cJ2_checkIndex_2214a 2 = .ok (.invokestatic 48, 3) := by decide +kernel
theorem dJ2_checkIndex_2214a_5 : decode cJ2_checkIndex_2214a 5 = .ok (.invokestatic 414, 3) := by decide +kernel
theorem dJ2_checkIndex_2214a_8 : decode cJ2_checkIndex_2214a 8 = .ok (.return_, 1) := by decide +kernel
theorem dJ2_checkBoundsBeginEnd_d044e_0 : decode cJ2_checkBoundsBeginEnd_d044e 0 = .ok (.iload_n 0, 1) := by decide +kernel
theorem dJ2_checkBoundsBeginEnd_d044e_1 : decode cJ2_checkBoundsBeginEnd_d044e 1 = .ok (.iload_n 1, 1) := by decide +kernel
theorem dJ2_checkBoundsBeginEnd_d044e_2 : decode cJ2_checkBoundsBeginEnd_d044e 2 = .ok (.aload_n 2, 1) := by decide +kernel
theorem dJ2_checkBoundsBeginEnd_d044e_3 : decode cJ2_checkBoundsBeginEnd_d044e 3 = .ok (.invokestatic 48, 3) := by decide +kernel
theorem dJ2_checkBoundsBeginEnd_d044e_6 : decode cJ2_checkBoundsBeginEnd_d044e 6 = .ok (.invokestatic 241, 3) := by decide +kernel
theorem dJ2_checkBoundsBeginEnd_d044e_9 : decode cJ2_checkBoundsBeginEnd_d044e 9 = .ok (.return_, 1) := by decide +kernel
theorem dJ3_checkIndex_8e157_0 : decode cJ3_checkIndex_8e157 0 = .ok (.iload_n 0, 1) := by decide +kernel
theorem dJ3_checkIndex_8e157_1 : decode cJ3_checkIndex_8e157 1 = .ok (.ifCond .lt 8, 3) := by decide +kernel
theorem dJ3_checkIndex_8e157_4 : decode cJ3_checkIndex_8e157 4 = .ok (.iload_n 0, 1) := by decide +kernel
theorem dJ3_checkIndex_8e157_5 : decode cJ3_checkIndex_8e157 5 = .ok (.iload_n 1, 1) := by decide +kernel
theorem dJ3_checkIndex_8e157_6 : decode cJ3_checkIndex_8e157 6 = .ok (.if_icmp .lt 10, 3) := by decide +kernel
theorem dJ3_checkIndex_8e157_9 : decode cJ3_checkIndex_8e157 9 = .ok (.aload_n 2, 1) := by decide +kernel
theorem dJ3_checkIndex_8e157_10 : decode cJ3_checkIndex_8e157 10 = .ok (.iload_n 0, 1) := by decide +kernel
theorem dJ3_checkIndex_8e157_11 : decode cJ3_checkIndex_8e157 11 = .ok (.iload_n 1, 1) := by decide +kernel
theorem dJ3_checkIndex_8e157_12 : decode cJ3_checkIndex_8e157 12 = .ok (.invokestatic 95, 3) := by decide +kernel
theorem dJ3_checkIndex_8e157_15 : decode cJ3_checkIndex_8e157 15 = .ok (.athrow, 1) := by decide +kernel
theorem dJ3_checkIndex_8e157_16 : decode cJ3_checkIndex_8e157 16 = .ok (.iload_n 0, 1) := by decide +kernel
theorem dJ3_checkIndex_8e157_17 : decode cJ3_checkIndex_8e157 17 = .ok (.ireturn, 1) := by decide +kernel
theorem dJ3_checkFromToIndex_8c36e_0 : decode cJ3_checkFromToIndex_8c36e 0 = .ok (.iload_n 0, 1) := by decide +kernel
theorem dJ3_checkFromToIndex_8c36e_1 : decode cJ3_checkFromToIndex_8c36e 1 = .ok (.ifCond .lt 13, 3) := by decide +kernel
theorem dJ3_checkFromToIndex_8c36e_4 : decode cJ3_checkFromToIndex_8c36e 4 = .ok (.iload_n 0, 1) := by decide +kernel
theorem dJ3_checkFromToIndex_8c36e_5 : decode cJ3_checkFromToIndex_8c36e 5 = .ok (.iload_n 1, 1) := by decide +kernel
theorem dJ3_checkFromToIndex_8c36e_6 : decode cJ3_checkFromToIndex_8c36e 6 = .ok (.if_icmp .gt 8, 3) := by decide +kernel
theorem dJ3_checkFromToIndex_8c36e_9 : decode cJ3_checkFromToIndex_8c36e 9 = .ok (.iload_n 1, 1) := by decide +kernel
theorem dJ3_checkFromToIndex_8c36e_10 : decode cJ3_checkFromToIndex_8c36e 10 = .ok (.iload_n 2, 1) := by decide +kernel
theorem dJ3_checkFromToIndex_8c36e_11 : decode cJ3_checkFromToIndex_8c36e 11 = .ok (.if_icmp .le 11, 3) := by decide +kernel
theorem dJ3_checkFromToIndex_8c36e_14 : decode cJ3_checkFromToIndex_8c36e 14 = .ok (.aload_n 3, 1) := by decide +kernel
theorem dJ3_checkFromToIndex_8c36e_15 : decode cJ3_checkFromToIndex_8c36e 15 = .ok (.iload_n 0, 1) := by decide +kernel
theorem dJ3_checkFromToIndex_8c36e_16 : decode cJ3_checkFromToIndex_8c36e 16 = .ok (.iload_n 1, 1) := by decide +kernel
theorem dJ3_checkFromToIndex_8c36e_17 : decode cJ3_checkFromToIndex_8c36e 17 = .ok (.iload_n 2, 1) := by decide +kernel
theorem dJ3_checkFromToIndex_8c36e_18 : decode cJ3_checkFromToIndex_8c36e 18 = .ok (.invokestatic 99, 3) := by decide +kernel
theorem dJ3_checkFromToIndex_8c36e_21 : decode cJ3_checkFromToIndex_8c36e 21 = .ok (.athrow, 1) := by decide +kernel
theorem dJ3_checkFromToIndex_8c36e_22 : decode cJ3_checkFromToIndex_8c36e 22 = .ok (.iload_n 0, 1) := by decide +kernel
theorem dJ3_checkFromToIndex_8c36e_23 : decode cJ3_checkFromToIndex_8c36e 23 = .ok (.ireturn, 1) := by decide +kernel
theorem dL_cell_0 : decode cL_cell 0 = .ok (.iload_n 1, 1) := by decide +kernel
theorem dL_cell_1 : decode cL_cell 1 = .ok (.aload_n 0, 1) := by decide +kernel
theorem dL_cell_2 : decode cL_cell 2 = .ok (.arraylength, 1) := by decide +kernel
theorem dL_cell_3 : decode cL_cell 3 = .ok (.if_icmp .ge 9, 3) := by decide +kernel
theorem dL_cell_6 : decode cL_cell 6 = .ok (.aload_n 0, 1) := by decide +kernel
theorem dL_cell_7 : decode cL_cell 7 = .ok (.iload_n 1, 1) := by decide +kernel
theorem dL_cell_8 : decode cL_cell 8 = .ok (.iaload, 1) := by decide +kernel
theorem dL_cell_9 : decode cL_cell 9 = .ok (.goto 4, 3) := by decide +kernel
theorem dL_cell_12 : decode cL_cell 12 = .ok (.iconst 0, 1) := by decide +kernel
theorem dL_cell_13 : decode cL_cell 13 = .ok (.ireturn, 1) := by decide +kernel
theorem dL_type_0 : decode cL_type 0 = .ok (.aload_n 2, 1) := by decide +kernel
theorem dL_type_1 : decode cL_type 1 = .ok (.iconst 0, 1) := by decide +kernel
theorem dL_type_2 : decode cL_type 2 = .ok (.aload_n 0, 1) := by decide +kernel
theorem dL_type_3 : decode cL_type 3 = .ok (.iload_n 1, 1) := by decide +kernel
theorem dL_type_4 : decode cL_type 4 = .ok (.invokevirtual 7, 3) := by decide +kernel
theorem dL_type_7 : decode cL_type 7 = .ok (.i2l, 1) := by decide +kernel
theorem dL_type_8 : decode cL_type 8 = .ok (.lastore, 1) := by decide +kernel
theorem dL_type_9 : decode cL_type 9 = .ok (.goto 9, 3) := by decide +kernel
theorem dL_type_12 : decode cL_type 12 = .ok (.astore_n 3, 1) := by decide +kernel
theorem dL_type_13 : decode cL_type 13 = .ok (.iconst 1, 1) := by decide +kernel
theorem dL_type_14 : decode cL_type 14 = .ok (.ireturn, 1) := by decide +kernel
theorem dL_type_15 : decode cL_type 15 = .ok (.astore_n 3, 1) := by decide +kernel
theorem dL_type_16 : decode cL_type 16 = .ok (.iconst 2, 1) := by decide +kernel
theorem dL_type_17 : decode cL_type 17 = .ok (.ireturn, 1) := by decide +kernel
theorem dL_type_18 : decode cL_type 18 = .ok (.iconst 0, 1) := by decide +kernel
theorem dL_type_19 : decode cL_type 19 = .ok (.ireturn, 1) := by decide +kernel
theorem dL_loadTemplate_0 : decode cL_loadTemplate 0 = .ok (.aload_n 2, 1) := by decide +kernel
theorem dL_loadTemplate_1 : decode cL_loadTemplate 1 = .ok (.iconst 0, 1) := by decide +kernel
theorem dL_loadTemplate_2 : decode cL_loadTemplate 2 = .ok (.aload_n 0, 1) := by decide +kernel
theorem dL_loadTemplate_3 : decode cL_loadTemplate 3 = .ok (.iload_n 1, 1) := by decide +kernel
theorem dL_loadTemplate_4 : decode cL_loadTemplate 4 = .ok (.invokevirtual 17, 3) := by decide +kernel
theorem dL_loadTemplate_7 : decode cL_loadTemplate 7 = .ok (.i2l, 1) := by decide +kernel
theorem dL_loadTemplate_8 : decode cL_loadTemplate 8 = .ok (.lastore, 1) := by decide +kernel
theorem dL_loadTemplate_9 : decode cL_loadTemplate 9 = .ok (.goto 6, 3) := by decide +kernel
theorem dL_loadTemplate_12 : decode cL_loadTemplate 12 = .ok (.astore_n 3, 1) := by decide +kernel
theorem dL_loadTemplate_13 : decode cL_loadTemplate 13 = .ok (.iconst 1, 1) := by decide +kernel
theorem dL_loadTemplate_14 : decode cL_loadTemplate 14 = .ok (.ireturn, 1) := by decide +kernel
theorem dL_loadTemplate_15 : decode cL_loadTemplate 15 = .ok (.iconst 0, 1) := by decide +kernel
theorem dL_loadTemplate_16 : decode cL_loadTemplate 16 = .ok (.ireturn, 1) := by decide +kernel
theorem dL_errorPosition_0 : decode cL_errorPosition 0 = .ok (.aload_n 2, 1) := by decide +kernel
theorem dL_errorPosition_1 : decode cL_errorPosition 1 = .ok (.iconst 0, 1) := by decide +kernel
theorem dL_errorPosition_2 : decode cL_errorPosition 2 = .ok (.aload_n 0, 1) := by decide +kernel
theorem dL_errorPosition_3 : decode cL_errorPosition 3 = .ok (.iload_n 1, 1) := by decide +kernel
theorem dL_errorPosition_4 : decode cL_errorPosition 4 = .ok (.invokevirtual 20, 3) := by decide +kernel
theorem dL_errorPosition_7 : decode cL_errorPosition 7 = .ok (.i2l, 1) := by decide +kernel
theorem dL_errorPosition_8 : decode cL_errorPosition 8 = .ok (.lastore, 1) := by decide +kernel
theorem dL_errorPosition_9 : decode cL_errorPosition 9 = .ok (.goto 6, 3) := by decide +kernel
theorem dL_errorPosition_12 : decode cL_errorPosition 12 = .ok (.astore_n 3, 1) := by decide +kernel
theorem dL_errorPosition_13 : decode cL_errorPosition 13 = .ok (.iconst 1, 1) := by decide +kernel
theorem dL_errorPosition_14 : decode cL_errorPosition 14 = .ok (.ireturn, 1) := by decide +kernel
theorem dL_errorPosition_15 : decode cL_errorPosition 15 = .ok (.iconst 0, 1) := by decide +kernel
theorem dL_errorPosition_16 : decode cL_errorPosition 16 = .ok (.ireturn, 1) := by decide +kernel
theorem dL_parentOf_0 : decode cL_parentOf 0 = .ok (.aload_n 2, 1) := by decide +kernel
theorem dL_parentOf_1 : decode cL_parentOf 1 = .ok (.iconst 0, 1) := by decide +kernel
theorem dL_parentOf_2 : decode cL_parentOf 2 = .ok (.aload_n 0, 1) := by decide +kernel
theorem dL_parentOf_3 : decode cL_parentOf 3 = .ok (.iload_n 1, 1) := by decide +kernel
theorem dL_parentOf_4 : decode cL_parentOf 4 = .ok (.invokevirtual 25, 3) := by decide +kernel
theorem dL_parentOf_7 : decode cL_parentOf 7 = .ok (.i2l, 1) := by decide +kernel
theorem dL_parentOf_8 : decode cL_parentOf 8 = .ok (.lastore, 1) := by decide +kernel
theorem dL_parentOf_9 : decode cL_parentOf 9 = .ok (.goto 6, 3) := by decide +kernel
theorem dL_parentOf_12 : decode cL_parentOf 12 = .ok (.astore_n 3, 1) := by decide +kernel
theorem dL_parentOf_13 : decode cL_parentOf 13 = .ok (.iconst 1, 1) := by decide +kernel
theorem dL_parentOf_14 : decode cL_parentOf 14 = .ok (.ireturn, 1) := by decide +kernel
theorem dL_parentOf_15 : decode cL_parentOf 15 = .ok (.iconst 0, 1) := by decide +kernel
theorem dL_parentOf_16 : decode cL_parentOf 16 = .ok (.ireturn, 1) := by decide +kernel
theorem dL_children_0 : decode cL_children 0 = .ok (.aload_n 2, 1) := by decide +kernel
theorem dL_children_1 : decode cL_children 1 = .ok (.iconst 0, 1) := by decide +kernel
theorem dL_children_2 : decode cL_children 2 = .ok (.aload_n 0, 1) := by decide +kernel
theorem dL_children_3 : decode cL_children 3 = .ok (.iload_n 1, 1) := by decide +kernel
theorem dL_children_4 : decode cL_children 4 = .ok (.invokevirtual 28, 3) := by decide +kernel
theorem dL_children_7 : decode cL_children 7 = .ok (.i2l, 1) := by decide +kernel
theorem dL_children_8 : decode cL_children 8 = .ok (.lastore, 1) := by decide +kernel
theorem dL_children_9 : decode cL_children 9 = .ok (.goto 6, 3) := by decide +kernel
theorem dL_children_12 : decode cL_children 12 = .ok (.astore_n 3, 1) := by decide +kernel
theorem dL_children_13 : decode cL_children 13 = .ok (.iconst 1, 1) := by decide +kernel
theorem dL_children_14 : decode cL_children 14 = .ok (.ireturn, 1) := by decide +kernel
theorem dL_children_15 : decode cL_children 15 = .ok (.iconst 0, 1) := by decide +kernel
theorem dL_children_16 : decode cL_children 16 = .ok (.ireturn, 1) := by decide +kernel
theorem dL_tieRule_0 : decode cL_tieRule 0 = .ok (.aload_n 2, 1) := by decide +kernel
theorem dL_tieRule_1 : decode cL_tieRule 1 = .ok (.iconst 0, 1) := by decide +kernel
theorem dL_tieRule_2 : decode cL_tieRule 2 = .ok (.aload_n 0, 1) := by decide +kernel
theorem dL_tieRule_3 : decode cL_tieRule 3 = .ok (.iload_n 1, 1) := by decide +kernel
theorem dL_tieRule_4 : decode cL_tieRule 4 = .ok (.invokevirtual 31, 3) := by decide +kernel
theorem dL_tieRule_7 : decode cL_tieRule 7 = .ok (.i2l, 1) := by decide +kernel
theorem dL_tieRule_8 : decode cL_tieRule 8 = .ok (.lastore, 1) := by decide +kernel
theorem dL_tieRule_9 : decode cL_tieRule 9 = .ok (.goto 6, 3) := by decide +kernel
theorem dL_tieRule_12 : decode cL_tieRule 12 = .ok (.astore_n 3, 1) := by decide +kernel
theorem dL_tieRule_13 : decode cL_tieRule 13 = .ok (.iconst 1, 1) := by decide +kernel
theorem dL_tieRule_14 : decode cL_tieRule 14 = .ok (.ireturn, 1) := by decide +kernel
theorem dL_tieRule_15 : decode cL_tieRule 15 = .ok (.iconst 0, 1) := by decide +kernel
theorem dL_tieRule_16 : decode cL_tieRule 16 = .ok (.ireturn, 1) := by decide +kernel
theorem dL_setFlowWeight_0 : decode cL_setFlowWeight 0 = .ok (.aload_n 3, 1) := by decide +kernel
theorem dL_setFlowWeight_1 : decode cL_setFlowWeight 1 = .ok (.iconst 0, 1) := by decide +kernel
theorem dL_setFlowWeight_2 : decode cL_setFlowWeight 2 = .ok (.aload_n 0, 1) := by decide +kernel
theorem dL_setFlowWeight_3 : decode cL_setFlowWeight 3 = .ok (.iload_n 1, 1) := by decide +kernel
theorem dL_setFlowWeight_4 : decode cL_setFlowWeight 4 = .ok (.iload_n 2, 1) := by decide +kernel
theorem dL_setFlowWeight_5 : decode cL_setFlowWeight 5 = .ok (.invokevirtual 34, 3) := by decide +kernel
theorem dL_setFlowWeight_8 : decode cL_setFlowWeight 8 = .ok (.i2l, 1) := by decide +kernel
theorem dL_setFlowWeight_9 : decode cL_setFlowWeight 9 = .ok (.lastore, 1) := by decide +kernel
theorem dL_setFlowWeight_10 : decode cL_setFlowWeight 10 = .ok (.goto 11, 3) := by decide +kernel
theorem dL_setFlowWeight_13 : decode cL_setFlowWeight 13 = .ok (.astore 4, 2) := by decide +kernel
theorem dL_setFlowWeight_15 : decode cL_setFlowWeight 15 = .ok (.iconst 1, 1) := by decide +kernel
theorem dL_setFlowWeight_16 : decode cL_setFlowWeight 16 = .ok (.ireturn, 1) := by decide +kernel
theorem dL_setFlowWeight_17 : decode cL_setFlowWeight 17 = .ok (.astore 4, 2) := by decide +kernel
theorem dL_setFlowWeight_19 : decode cL_setFlowWeight 19 = .ok (.iconst 2, 1) := by decide +kernel
theorem dL_setFlowWeight_20 : decode cL_setFlowWeight 20 = .ok (.ireturn, 1) := by decide +kernel
theorem dL_setFlowWeight_21 : decode cL_setFlowWeight 21 = .ok (.iconst 0, 1) := by decide +kernel
theorem dL_setFlowWeight_22 : decode cL_setFlowWeight 22 = .ok (.ireturn, 1) := by decide +kernel
theorem dL_setNodeWeight_0 : decode cL_setNodeWeight 0 = .ok (.aload_n 3, 1) := by decide +kernel
theorem dL_setNodeWeight_1 : decode cL_setNodeWeight 1 = .ok (.iconst 0, 1) := by decide +kernel
theorem dL_setNodeWeight_2 : decode cL_setNodeWeight 2 = .ok (.aload_n 0, 1) := by decide +kernel
theorem dL_setNodeWeight_3 : decode cL_setNodeWeight 3 = .ok (.iload_n 1, 1) := by decide +kernel
theorem dL_setNodeWeight_4 : decode cL_setNodeWeight 4 = .ok (.iload_n 2, 1) := by decide +kernel
theorem dL_setNodeWeight_5 : decode cL_setNodeWeight 5 = .ok (.invokevirtual 38, 3) := by decide +kernel
theorem dL_setNodeWeight_8 : decode cL_setNodeWeight 8 = .ok (.i2l, 1) := by decide +kernel
theorem dL_setNodeWeight_9 : decode cL_setNodeWeight 9 = .ok (.lastore, 1) := by decide +kernel
theorem dL_setNodeWeight_10 : decode cL_setNodeWeight 10 = .ok (.goto 11, 3) := by decide +kernel
theorem dL_setNodeWeight_13 : decode cL_setNodeWeight 13 = .ok (.astore 4, 2) := by decide +kernel
theorem dL_setNodeWeight_15 : decode cL_setNodeWeight 15 = .ok (.iconst 1, 1) := by decide +kernel
theorem dL_setNodeWeight_16 : decode cL_setNodeWeight 16 = .ok (.ireturn, 1) := by decide +kernel
theorem dL_setNodeWeight_17 : decode cL_setNodeWeight 17 = .ok (.astore 4, 2) := by decide +kernel
theorem dL_setNodeWeight_19 : decode cL_setNodeWeight 19 = .ok (.iconst 2, 1) := by decide +kernel
theorem dL_setNodeWeight_20 : decode cL_setNodeWeight 20 = .ok (.ireturn, 1) := by decide +kernel
theorem dL_setNodeWeight_21 : decode cL_setNodeWeight 21 = .ok (.iconst 0, 1) := by decide +kernel
theorem dL_setNodeWeight_22 : decode cL_setNodeWeight 22 = .ok (.ireturn, 1) := by decide +kernel
theorem dL_assign_0 : decode cL_assign 0 = .ok (.aload_n 3, 1) := by decide +kernel
theorem dL_assign_1 : decode cL_assign 1 = .ok (.iconst 0, 1) := by decide +kernel
theorem dL_assign_2 : decode cL_assign 2 = .ok (.aload_n 0, 1) := by decide +kernel
theorem dL_assign_3 : decode cL_assign 3 = .ok (.iload_n 1, 1) := by decide +kernel
theorem dL_assign_4 : decode cL_assign 4 = .ok (.iload_n 2, 1) := by decide +kernel
theorem dL_assign_5 : decode cL_assign 5 = .ok (.invokevirtual 41, 3) := by decide +kernel
theorem dL_assign_8 : decode cL_assign 8 = .ok (.i2l, 1) := by decide +kernel
theorem dL_assign_9 : decode cL_assign 9 = .ok (.lastore, 1) := by decide +kernel
theorem dL_assign_10 : decode cL_assign 10 = .ok (.goto 11, 3) := by decide +kernel
theorem dL_assign_13 : decode cL_assign 13 = .ok (.astore 4, 2) := by decide +kernel
theorem dL_assign_15 : decode cL_assign 15 = .ok (.iconst 1, 1) := by decide +kernel
theorem dL_assign_16 : decode cL_assign 16 = .ok (.ireturn, 1) := by decide +kernel
theorem dL_assign_17 : decode cL_assign 17 = .ok (.astore 4, 2) := by decide +kernel
theorem dL_assign_19 : decode cL_assign 19 = .ok (.iconst 2, 1) := by decide +kernel
theorem dL_assign_20 : decode cL_assign 20 = .ok (.ireturn, 1) := by decide +kernel
theorem dL_assign_21 : decode cL_assign 21 = .ok (.iconst 0, 1) := by decide +kernel
theorem dL_assign_22 : decode cL_assign 22 = .ok (.ireturn, 1) := by decide +kernel
theorem dL_leafOf_0 : decode cL_leafOf 0 = .ok (.aload_n 2, 1) := by decide +kernel
theorem dL_leafOf_1 : decode cL_leafOf 1 = .ok (.iconst 0, 1) := by decide +kernel
theorem dL_leafOf_2 : decode cL_leafOf 2 = .ok (.aload_n 0, 1) := by decide +kernel
theorem dL_leafOf_3 : decode cL_leafOf 3 = .ok (.iload_n 1, 1) := by decide +kernel
theorem dL_leafOf_4 : decode cL_leafOf 4 = .ok (.invokevirtual 44, 3) := by decide +kernel
theorem dL_leafOf_7 : decode cL_leafOf 7 = .ok (.i2l, 1) := by decide +kernel
theorem dL_leafOf_8 : decode cL_leafOf 8 = .ok (.lastore, 1) := by decide +kernel
theorem dL_leafOf_9 : decode cL_leafOf 9 = .ok (.goto 6, 3) := by decide +kernel
theorem dL_leafOf_12 : decode cL_leafOf 12 = .ok (.astore_n 3, 1) := by decide +kernel
theorem dL_leafOf_13 : decode cL_leafOf 13 = .ok (.iconst 1, 1) := by decide +kernel
theorem dL_leafOf_14 : decode cL_leafOf 14 = .ok (.ireturn, 1) := by decide +kernel
theorem dL_leafOf_15 : decode cL_leafOf 15 = .ok (.iconst 0, 1) := by decide +kernel
theorem dL_leafOf_16 : decode cL_leafOf 16 = .ok (.ireturn, 1) := by decide +kernel
theorem dL_setLinkRate_0 : decode cL_setLinkRate 0 = .ok (.aload_n 2, 1) := by decide +kernel
theorem dL_setLinkRate_1 : decode cL_setLinkRate 1 = .ok (.iconst 0, 1) := by decide +kernel
theorem dL_setLinkRate_2 : decode cL_setLinkRate 2 = .ok (.aload_n 0, 1) := by decide +kernel
theorem dL_setLinkRate_3 : decode cL_setLinkRate 3 = .ok (.iload_n 1, 1) := by decide +kernel
theorem dL_setLinkRate_4 : decode cL_setLinkRate 4 = .ok (.invokevirtual 47, 3) := by decide +kernel
theorem dL_setLinkRate_7 : decode cL_setLinkRate 7 = .ok (.i2l, 1) := by decide +kernel
theorem dL_setLinkRate_8 : decode cL_setLinkRate 8 = .ok (.lastore, 1) := by decide +kernel
theorem dL_setLinkRate_9 : decode cL_setLinkRate 9 = .ok (.goto 6, 3) := by decide +kernel
theorem dL_setLinkRate_12 : decode cL_setLinkRate 12 = .ok (.astore_n 3, 1) := by decide +kernel
theorem dL_setLinkRate_13 : decode cL_setLinkRate 13 = .ok (.iconst 1, 1) := by decide +kernel
theorem dL_setLinkRate_14 : decode cL_setLinkRate 14 = .ok (.ireturn, 1) := by decide +kernel
theorem dL_setLinkRate_15 : decode cL_setLinkRate 15 = .ok (.iconst 0, 1) := by decide +kernel
theorem dL_setLinkRate_16 : decode cL_setLinkRate 16 = .ok (.ireturn, 1) := by decide +kernel
theorem dL_enqueue_0 : decode cL_enqueue 0 = .ok (.aload 5, 2) := by decide +kernel
theorem dL_enqueue_2 : decode cL_enqueue 2 = .ok (.iconst 0, 1) := by decide +kernel
theorem dL_enqueue_3 : decode cL_enqueue 3 = .ok (.aload_n 0, 1) := by decide +kernel
theorem dL_enqueue_4 : decode cL_enqueue 4 = .ok (.iload_n 1, 1) := by decide +kernel
theorem dL_enqueue_5 : decode cL_enqueue 5 = .ok (.iload_n 2, 1) := by decide +kernel
theorem dL_enqueue_6 : decode cL_enqueue 6 = .ok (.iload_n 3, 1) := by decide +kernel
theorem dL_enqueue_7 : decode cL_enqueue 7 = .ok (.iload 4, 2) := by decide +kernel
theorem dL_enqueue_9 : decode cL_enqueue 9 = .ok (.invokevirtual 50, 3) := by decide +kernel
theorem dL_enqueue_12 : decode cL_enqueue 12 = .ok (.i2l, 1) := by decide +kernel
theorem dL_enqueue_13 : decode cL_enqueue 13 = .ok (.lastore, 1) := by decide +kernel
theorem dL_enqueue_14 : decode cL_enqueue 14 = .ok (.goto 15, 3) := by decide +kernel
theorem dL_enqueue_17 : decode cL_enqueue 17 = .ok (.astore 6, 2) := by decide +kernel
theorem dL_enqueue_19 : decode cL_enqueue 19 = .ok (.iconst 1, 1) := by decide +kernel
theorem dL_enqueue_20 : decode cL_enqueue 20 = .ok (.ireturn, 1) := by decide +kernel
theorem dL_enqueue_21 : decode cL_enqueue 21 = .ok (.astore 6, 2) := by decide +kernel
theorem dL_enqueue_23 : decode cL_enqueue 23 = .ok (.iconst 2, 1) := by decide +kernel
theorem dL_enqueue_24 : decode cL_enqueue 24 = .ok (.ireturn, 1) := by decide +kernel
theorem dL_enqueue_25 : decode cL_enqueue 25 = .ok (.astore 6, 2) := by decide +kernel
theorem dL_enqueue_27 : decode cL_enqueue 27 = .ok (.iconst 3, 1) := by decide +kernel
theorem dL_enqueue_28 : decode cL_enqueue 28 = .ok (.ireturn, 1) := by decide +kernel
theorem dL_enqueue_29 : decode cL_enqueue 29 = .ok (.iconst 0, 1) := by decide +kernel
theorem dL_enqueue_30 : decode cL_enqueue 30 = .ok (.ireturn, 1) := by decide +kernel
theorem dL_advance_0 : decode cL_advance 0 = .ok (.aload_n 2, 1) := by decide +kernel
theorem dL_advance_1 : decode cL_advance 1 = .ok (.iconst 0, 1) := by decide +kernel
theorem dL_advance_2 : decode cL_advance 2 = .ok (.aload_n 0, 1) := by decide +kernel
theorem dL_advance_3 : decode cL_advance 3 = .ok (.iload_n 1, 1) := by decide +kernel
theorem dL_advance_4 : decode cL_advance 4 = .ok (.invokevirtual 54, 3) := by decide +kernel
theorem dL_advance_7 : decode cL_advance 7 = .ok (.i2l, 1) := by decide +kernel
theorem dL_advance_8 : decode cL_advance 8 = .ok (.lastore, 1) := by decide +kernel
theorem dL_advance_9 : decode cL_advance 9 = .ok (.goto 6, 3) := by decide +kernel
theorem dL_advance_12 : decode cL_advance 12 = .ok (.astore_n 3, 1) := by decide +kernel
theorem dL_advance_13 : decode cL_advance 13 = .ok (.iconst 1, 1) := by decide +kernel
theorem dL_advance_14 : decode cL_advance 14 = .ok (.ireturn, 1) := by decide +kernel
theorem dL_advance_15 : decode cL_advance 15 = .ok (.iconst 0, 1) := by decide +kernel
theorem dL_advance_16 : decode cL_advance 16 = .ok (.ireturn, 1) := by decide +kernel
theorem dL_queueLength_0 : decode cL_queueLength 0 = .ok (.aload_n 2, 1) := by decide +kernel
theorem dL_queueLength_1 : decode cL_queueLength 1 = .ok (.iconst 0, 1) := by decide +kernel
theorem dL_queueLength_2 : decode cL_queueLength 2 = .ok (.aload_n 0, 1) := by decide +kernel
theorem dL_queueLength_3 : decode cL_queueLength 3 = .ok (.iload_n 1, 1) := by decide +kernel
theorem dL_queueLength_4 : decode cL_queueLength 4 = .ok (.invokevirtual 57, 3) := by decide +kernel
theorem dL_queueLength_7 : decode cL_queueLength 7 = .ok (.i2l, 1) := by decide +kernel
theorem dL_queueLength_8 : decode cL_queueLength 8 = .ok (.lastore, 1) := by decide +kernel
theorem dL_queueLength_9 : decode cL_queueLength 9 = .ok (.goto 6, 3) := by decide +kernel
theorem dL_queueLength_12 : decode cL_queueLength 12 = .ok (.astore_n 3, 1) := by decide +kernel
theorem dL_queueLength_13 : decode cL_queueLength 13 = .ok (.iconst 1, 1) := by decide +kernel
theorem dL_queueLength_14 : decode cL_queueLength 14 = .ok (.ireturn, 1) := by decide +kernel
theorem dL_queueLength_15 : decode cL_queueLength 15 = .ok (.iconst 0, 1) := by decide +kernel
theorem dL_queueLength_16 : decode cL_queueLength 16 = .ok (.ireturn, 1) := by decide +kernel
theorem dL_queueItem_0 : decode cL_queueItem 0 = .ok (.aload_n 3, 1) := by decide +kernel
theorem dL_queueItem_1 : decode cL_queueItem 1 = .ok (.iconst 0, 1) := by decide +kernel
theorem dL_queueItem_2 : decode cL_queueItem 2 = .ok (.aload_n 0, 1) := by decide +kernel
theorem dL_queueItem_3 : decode cL_queueItem 3 = .ok (.iload_n 1, 1) := by decide +kernel
theorem dL_queueItem_4 : decode cL_queueItem 4 = .ok (.iload_n 2, 1) := by decide +kernel
theorem dL_queueItem_5 : decode cL_queueItem 5 = .ok (.invokevirtual 60, 3) := by decide +kernel
theorem dL_queueItem_8 : decode cL_queueItem 8 = .ok (.i2l, 1) := by decide +kernel
theorem dL_queueItem_9 : decode cL_queueItem 9 = .ok (.lastore, 1) := by decide +kernel
theorem dL_queueItem_10 : decode cL_queueItem 10 = .ok (.goto 7, 3) := by decide +kernel
theorem dL_queueItem_13 : decode cL_queueItem 13 = .ok (.astore 4, 2) := by decide +kernel
theorem dL_queueItem_15 : decode cL_queueItem 15 = .ok (.iconst 1, 1) := by decide +kernel
theorem dL_queueItem_16 : decode cL_queueItem 16 = .ok (.ireturn, 1) := by decide +kernel
theorem dL_queueItem_17 : decode cL_queueItem 17 = .ok (.iconst 0, 1) := by decide +kernel
theorem dL_queueItem_18 : decode cL_queueItem 18 = .ok (.ireturn, 1) := by decide +kernel
theorem dL_queueRank_0 : decode cL_queueRank 0 = .ok (.aload_n 3, 1) := by decide +kernel
theorem dL_queueRank_1 : decode cL_queueRank 1 = .ok (.iconst 0, 1) := by decide +kernel
theorem dL_queueRank_2 : decode cL_queueRank 2 = .ok (.aload_n 0, 1) := by decide +kernel
theorem dL_queueRank_3 : decode cL_queueRank 3 = .ok (.iload_n 1, 1) := by decide +kernel
theorem dL_queueRank_4 : decode cL_queueRank 4 = .ok (.iload_n 2, 1) := by decide +kernel
theorem dL_queueRank_5 : decode cL_queueRank 5 = .ok (.invokevirtual 63, 3) := by decide +kernel
theorem dL_queueRank_8 : decode cL_queueRank 8 = .ok (.lastore, 1) := by decide +kernel
theorem dL_queueRank_9 : decode cL_queueRank 9 = .ok (.goto 7, 3) := by decide +kernel
theorem dL_queueRank_12 : decode cL_queueRank 12 = .ok (.astore 4, 2) := by decide +kernel
theorem dL_queueRank_14 : decode cL_queueRank 14 = .ok (.iconst 1, 1) := by decide +kernel
theorem dL_queueRank_15 : decode cL_queueRank 15 = .ok (.ireturn, 1) := by decide +kernel
theorem dL_queueRank_16 : decode cL_queueRank 16 = .ok (.iconst 0, 1) := by decide +kernel
theorem dL_queueRank_17 : decode cL_queueRank 17 = .ok (.ireturn, 1) := by decide +kernel
theorem dL_virtualTime_0 : decode cL_virtualTime 0 = .ok (.aload_n 2, 1) := by decide +kernel
theorem dL_virtualTime_1 : decode cL_virtualTime 1 = .ok (.iconst 0, 1) := by decide +kernel
theorem dL_virtualTime_2 : decode cL_virtualTime 2 = .ok (.aload_n 0, 1) := by decide +kernel
theorem dL_virtualTime_3 : decode cL_virtualTime 3 = .ok (.iload_n 1, 1) := by decide +kernel
theorem dL_virtualTime_4 : decode cL_virtualTime 4 = .ok (.invokevirtual 67, 3) := by decide +kernel
theorem dL_virtualTime_7 : decode cL_virtualTime 7 = .ok (.lastore, 1) := by decide +kernel
theorem dL_virtualTime_8 : decode cL_virtualTime 8 = .ok (.goto 6, 3) := by decide +kernel
theorem dL_virtualTime_11 : decode cL_virtualTime 11 = .ok (.astore_n 3, 1) := by decide +kernel
theorem dL_virtualTime_12 : decode cL_virtualTime 12 = .ok (.iconst 1, 1) := by decide +kernel
theorem dL_virtualTime_13 : decode cL_virtualTime 13 = .ok (.ireturn, 1) := by decide +kernel
theorem dL_virtualTime_14 : decode cL_virtualTime 14 = .ok (.iconst 0, 1) := by decide +kernel
theorem dL_virtualTime_15 : decode cL_virtualTime 15 = .ok (.ireturn, 1) := by decide +kernel
theorem dL_state_0 : decode cL_state 0 = .ok (.aload_n 3, 1) := by decide +kernel
theorem dL_state_1 : decode cL_state 1 = .ok (.iconst 0, 1) := by decide +kernel
theorem dL_state_2 : decode cL_state 2 = .ok (.aload_n 0, 1) := by decide +kernel
theorem dL_state_3 : decode cL_state 3 = .ok (.iload_n 1, 1) := by decide +kernel
theorem dL_state_4 : decode cL_state 4 = .ok (.iload_n 2, 1) := by decide +kernel
theorem dL_state_5 : decode cL_state 5 = .ok (.invokevirtual 71, 3) := by decide +kernel
theorem dL_state_8 : decode cL_state 8 = .ok (.lastore, 1) := by decide +kernel
theorem dL_state_9 : decode cL_state 9 = .ok (.goto 11, 3) := by decide +kernel
theorem dL_state_12 : decode cL_state 12 = .ok (.astore 4, 2) := by decide +kernel
theorem dL_state_14 : decode cL_state 14 = .ok (.iconst 1, 1) := by decide +kernel
theorem dL_state_15 : decode cL_state 15 = .ok (.ireturn, 1) := by decide +kernel
theorem dL_state_16 : decode cL_state 16 = .ok (.astore 4, 2) := by decide +kernel
theorem dL_state_18 : decode cL_state 18 = .ok (.iconst 2, 1) := by decide +kernel
theorem dL_state_19 : decode cL_state 19 = .ok (.ireturn, 1) := by decide +kernel
theorem dL_state_20 : decode cL_state 20 = .ok (.iconst 0, 1) := by decide +kernel
theorem dL_state_21 : decode cL_state 21 = .ok (.ireturn, 1) := by decide +kernel
theorem dL_rankIf_0 : decode cL_rankIf 0 = .ok (.aload 5, 2) := by decide +kernel
theorem dL_rankIf_2 : decode cL_rankIf 2 = .ok (.iconst 0, 1) := by decide +kernel
theorem dL_rankIf_3 : decode cL_rankIf 3 = .ok (.aload_n 0, 1) := by decide +kernel
theorem dL_rankIf_4 : decode cL_rankIf 4 = .ok (.iload_n 1, 1) := by decide +kernel
theorem dL_rankIf_5 : decode cL_rankIf 5 = .ok (.iload_n 2, 1) := by decide +kernel
theorem dL_rankIf_6 : decode cL_rankIf 6 = .ok (.iload_n 3, 1) := by decide +kernel
theorem dL_rankIf_7 : decode cL_rankIf 7 = .ok (.iload 4, 2) := by decide +kernel
theorem dL_rankIf_9 : decode cL_rankIf 9 = .ok (.invokevirtual 74, 3) := by decide +kernel
theorem dL_rankIf_12 : decode cL_rankIf 12 = .ok (.lastore, 1) := by decide +kernel
theorem dL_rankIf_13 : decode cL_rankIf 13 = .ok (.goto 11, 3) := by decide +kernel
theorem dL_rankIf_16 : decode cL_rankIf 16 = .ok (.astore 6, 2) := by decide +kernel
theorem dL_rankIf_18 : decode cL_rankIf 18 = .ok (.iconst 1, 1) := by decide +kernel
theorem dL_rankIf_19 : decode cL_rankIf 19 = .ok (.ireturn, 1) := by decide +kernel
theorem dL_rankIf_20 : decode cL_rankIf 20 = .ok (.astore 6, 2) := by decide +kernel
theorem dL_rankIf_22 : decode cL_rankIf 22 = .ok (.iconst 2, 1) := by decide +kernel
theorem dL_rankIf_23 : decode cL_rankIf 23 = .ok (.ireturn, 1) := by decide +kernel
theorem dL_rankIf_24 : decode cL_rankIf 24 = .ok (.iconst 0, 1) := by decide +kernel
theorem dL_rankIf_25 : decode cL_rankIf 25 = .ok (.ireturn, 1) := by decide +kernel
theorem dL_peek_0 : decode cL_peek 0 = .ok (.aload_n 2, 1) := by decide +kernel
theorem dL_peek_1 : decode cL_peek 1 = .ok (.iconst 0, 1) := by decide +kernel
theorem dL_peek_2 : decode cL_peek 2 = .ok (.aload_n 0, 1) := by decide +kernel
theorem dL_peek_3 : decode cL_peek 3 = .ok (.iload_n 1, 1) := by decide +kernel
theorem dL_peek_4 : decode cL_peek 4 = .ok (.invokevirtual 78, 3) := by decide +kernel
theorem dL_peek_7 : decode cL_peek 7 = .ok (.i2l, 1) := by decide +kernel
theorem dL_peek_8 : decode cL_peek 8 = .ok (.lastore, 1) := by decide +kernel
theorem dL_peek_9 : decode cL_peek 9 = .ok (.goto 6, 3) := by decide +kernel
theorem dL_peek_12 : decode cL_peek 12 = .ok (.astore_n 3, 1) := by decide +kernel
theorem dL_peek_13 : decode cL_peek 13 = .ok (.iconst 1, 1) := by decide +kernel
theorem dL_peek_14 : decode cL_peek 14 = .ok (.ireturn, 1) := by decide +kernel
theorem dL_peek_15 : decode cL_peek 15 = .ok (.iconst 0, 1) := by decide +kernel
theorem dL_peek_16 : decode cL_peek 16 = .ok (.ireturn, 1) := by decide +kernel
theorem dL_departureIf_0 : decode cL_departureIf 0 = .ok (.aload_n 2, 1) := by decide +kernel
theorem dL_departureIf_1 : decode cL_departureIf 1 = .ok (.iconst 0, 1) := by decide +kernel
theorem dL_departureIf_2 : decode cL_departureIf 2 = .ok (.aload_n 0, 1) := by decide +kernel
theorem dL_departureIf_3 : decode cL_departureIf 3 = .ok (.iload_n 1, 1) := by decide +kernel
theorem dL_departureIf_4 : decode cL_departureIf 4 = .ok (.invokevirtual 81, 3) := by decide +kernel
theorem dL_departureIf_7 : decode cL_departureIf 7 = .ok (.lastore, 1) := by decide +kernel
theorem dL_departureIf_8 : decode cL_departureIf 8 = .ok (.goto 6, 3) := by decide +kernel
theorem dL_departureIf_11 : decode cL_departureIf 11 = .ok (.astore_n 3, 1) := by decide +kernel
theorem dL_departureIf_12 : decode cL_departureIf 12 = .ok (.iconst 1, 1) := by decide +kernel
theorem dL_departureIf_13 : decode cL_departureIf 13 = .ok (.ireturn, 1) := by decide +kernel
theorem dL_departureIf_14 : decode cL_departureIf 14 = .ok (.iconst 0, 1) := by decide +kernel
theorem dL_departureIf_15 : decode cL_departureIf 15 = .ok (.ireturn, 1) := by decide +kernel
theorem dL_flowOf_0 : decode cL_flowOf 0 = .ok (.aload_n 2, 1) := by decide +kernel
theorem dL_flowOf_1 : decode cL_flowOf 1 = .ok (.iconst 0, 1) := by decide +kernel
theorem dL_flowOf_2 : decode cL_flowOf 2 = .ok (.aload_n 0, 1) := by decide +kernel
theorem dL_flowOf_3 : decode cL_flowOf 3 = .ok (.iload_n 1, 1) := by decide +kernel
theorem dL_flowOf_4 : decode cL_flowOf 4 = .ok (.invokevirtual 84, 3) := by decide +kernel
theorem dL_flowOf_7 : decode cL_flowOf 7 = .ok (.i2l, 1) := by decide +kernel
theorem dL_flowOf_8 : decode cL_flowOf 8 = .ok (.lastore, 1) := by decide +kernel
theorem dL_flowOf_9 : decode cL_flowOf 9 = .ok (.goto 6, 3) := by decide +kernel
theorem dL_flowOf_12 : decode cL_flowOf 12 = .ok (.astore_n 3, 1) := by decide +kernel
theorem dL_flowOf_13 : decode cL_flowOf 13 = .ok (.iconst 1, 1) := by decide +kernel
theorem dL_flowOf_14 : decode cL_flowOf 14 = .ok (.ireturn, 1) := by decide +kernel
theorem dL_flowOf_15 : decode cL_flowOf 15 = .ok (.iconst 0, 1) := by decide +kernel
theorem dL_flowOf_16 : decode cL_flowOf 16 = .ok (.ireturn, 1) := by decide +kernel
theorem dL_deadlineOf_0 : decode cL_deadlineOf 0 = .ok (.aload_n 2, 1) := by decide +kernel
theorem dL_deadlineOf_1 : decode cL_deadlineOf 1 = .ok (.iconst 0, 1) := by decide +kernel
theorem dL_deadlineOf_2 : decode cL_deadlineOf 2 = .ok (.aload_n 0, 1) := by decide +kernel
theorem dL_deadlineOf_3 : decode cL_deadlineOf 3 = .ok (.iload_n 1, 1) := by decide +kernel
theorem dL_deadlineOf_4 : decode cL_deadlineOf 4 = .ok (.invokevirtual 87, 3) := by decide +kernel
theorem dL_deadlineOf_7 : decode cL_deadlineOf 7 = .ok (.lastore, 1) := by decide +kernel
theorem dL_deadlineOf_8 : decode cL_deadlineOf 8 = .ok (.goto 6, 3) := by decide +kernel
theorem dL_deadlineOf_11 : decode cL_deadlineOf 11 = .ok (.astore_n 3, 1) := by decide +kernel
theorem dL_deadlineOf_12 : decode cL_deadlineOf 12 = .ok (.iconst 1, 1) := by decide +kernel
theorem dL_deadlineOf_13 : decode cL_deadlineOf 13 = .ok (.ireturn, 1) := by decide +kernel
theorem dL_deadlineOf_14 : decode cL_deadlineOf 14 = .ok (.iconst 0, 1) := by decide +kernel
theorem dL_deadlineOf_15 : decode cL_deadlineOf 15 = .ok (.ireturn, 1) := by decide +kernel
theorem dL_departureOf_0 : decode cL_departureOf 0 = .ok (.aload_n 2, 1) := by decide +kernel
theorem dL_departureOf_1 : decode cL_departureOf 1 = .ok (.iconst 0, 1) := by decide +kernel
theorem dL_departureOf_2 : decode cL_departureOf 2 = .ok (.aload_n 0, 1) := by decide +kernel
theorem dL_departureOf_3 : decode cL_departureOf 3 = .ok (.iload_n 1, 1) := by decide +kernel
theorem dL_departureOf_4 : decode cL_departureOf 4 = .ok (.invokevirtual 90, 3) := by decide +kernel
theorem dL_departureOf_7 : decode cL_departureOf 7 = .ok (.lastore, 1) := by decide +kernel
theorem dL_departureOf_8 : decode cL_departureOf 8 = .ok (.goto 6, 3) := by decide +kernel
theorem dL_departureOf_11 : decode cL_departureOf 11 = .ok (.astore_n 3, 1) := by decide +kernel
theorem dL_departureOf_12 : decode cL_departureOf 12 = .ok (.iconst 1, 1) := by decide +kernel
theorem dL_departureOf_13 : decode cL_departureOf 13 = .ok (.ireturn, 1) := by decide +kernel
theorem dL_departureOf_14 : decode cL_departureOf 14 = .ok (.iconst 0, 1) := by decide +kernel
theorem dL_departureOf_15 : decode cL_departureOf 15 = .ok (.ireturn, 1) := by decide +kernel
theorem dL_sent_0 : decode cL_sent 0 = .ok (.aload_n 2, 1) := by decide +kernel
theorem dL_sent_1 : decode cL_sent 1 = .ok (.iconst 0, 1) := by decide +kernel
theorem dL_sent_2 : decode cL_sent 2 = .ok (.aload_n 0, 1) := by decide +kernel
theorem dL_sent_3 : decode cL_sent 3 = .ok (.iload_n 1, 1) := by decide +kernel
theorem dL_sent_4 : decode cL_sent 4 = .ok (.invokevirtual 93, 3) := by decide +kernel
theorem dL_sent_7 : decode cL_sent 7 = .ok (.i2l, 1) := by decide +kernel
theorem dL_sent_8 : decode cL_sent 8 = .ok (.lastore, 1) := by decide +kernel
theorem dL_sent_9 : decode cL_sent 9 = .ok (.goto 6, 3) := by decide +kernel
theorem dL_sent_12 : decode cL_sent 12 = .ok (.astore_n 3, 1) := by decide +kernel
theorem dL_sent_13 : decode cL_sent 13 = .ok (.iconst 1, 1) := by decide +kernel
theorem dL_sent_14 : decode cL_sent 14 = .ok (.ireturn, 1) := by decide +kernel
theorem dL_sent_15 : decode cL_sent 15 = .ok (.iconst 0, 1) := by decide +kernel
theorem dL_sent_16 : decode cL_sent 16 = .ok (.ireturn, 1) := by decide +kernel
theorem dL_sentBytes_0 : decode cL_sentBytes 0 = .ok (.aload_n 2, 1) := by decide +kernel
theorem dL_sentBytes_1 : decode cL_sentBytes 1 = .ok (.iconst 0, 1) := by decide +kernel
theorem dL_sentBytes_2 : decode cL_sentBytes 2 = .ok (.aload_n 0, 1) := by decide +kernel
theorem dL_sentBytes_3 : decode cL_sentBytes 3 = .ok (.iload_n 1, 1) := by decide +kernel
theorem dL_sentBytes_4 : decode cL_sentBytes 4 = .ok (.invokevirtual 96, 3) := by decide +kernel
theorem dL_sentBytes_7 : decode cL_sentBytes 7 = .ok (.i2l, 1) := by decide +kernel
theorem dL_sentBytes_8 : decode cL_sentBytes 8 = .ok (.lastore, 1) := by decide +kernel
theorem dL_sentBytes_9 : decode cL_sentBytes 9 = .ok (.goto 6, 3) := by decide +kernel
theorem dL_sentBytes_12 : decode cL_sentBytes 12 = .ok (.astore_n 3, 1) := by decide +kernel
theorem dL_sentBytes_13 : decode cL_sentBytes 13 = .ok (.iconst 1, 1) := by decide +kernel
theorem dL_sentBytes_14 : decode cL_sentBytes 14 = .ok (.ireturn, 1) := by decide +kernel
theorem dL_sentBytes_15 : decode cL_sentBytes 15 = .ok (.iconst 0, 1) := by decide +kernel
theorem dL_sentBytes_16 : decode cL_sentBytes 16 = .ok (.ireturn, 1) := by decide +kernel
theorem dL_totalDelay_0 : decode cL_totalDelay 0 = .ok (.aload_n 2, 1) := by decide +kernel
