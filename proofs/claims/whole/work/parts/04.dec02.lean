theorem dX8_children_16 : decode cX8_children 16 = .ok (.iaload, 1) := by decide +kernel
theorem dX8_children_17 : decode cX8_children 17 = .ok (.ireturn, 1) := by decide +kernel
theorem dX8_tieRule_0 : decode cX8_tieRule 0 = .ok (.aload_n 0, 1) := by decide +kernel
theorem dX8_tieRule_1 : decode cX8_tieRule 1 = .ok (.iload_n 1, 1) := by decide +kernel
theorem dX8_tieRule_2 : decode cX8_tieRule 2 = .ok (.invokevirtual 103, 3) := by decide +kernel
theorem dX8_tieRule_5 : decode cX8_tieRule 5 = .ok (.aload_n 0, 1) := by decide +kernel
theorem dX8_tieRule_6 : decode cX8_tieRule 6 = .ok (.getfield 36, 3) := by decide +kernel
theorem dX8_tieRule_9 : decode cX8_tieRule 9 = .ok (.getfield 90, 3) := by decide +kernel
theorem dX8_tieRule_12 : decode cX8_tieRule 12 = .ok (.getfield 112, 3) := by decide +kernel
theorem dX8_tieRule_15 : decode cX8_tieRule 15 = .ok (.iload_n 1, 1) := by decide +kernel
theorem dX8_tieRule_16 : decode cX8_tieRule 16 = .ok (.iaload, 1) := by decide +kernel
theorem dX8_tieRule_17 : decode cX8_tieRule 17 = .ok (.ireturn, 1) := by decide +kernel
theorem dX8_setFlowWeight_0 : decode cX8_setFlowWeight 0 = .ok (.iload_n 1, 1) := by decide +kernel
theorem dX8_setFlowWeight_1 : decode cX8_setFlowWeight 1 = .ok (.invokestatic 115, 3) := by decide +kernel
theorem dX8_setFlowWeight_4 : decode cX8_setFlowWeight 4 = .ok (.iload_n 2, 1) := by decide +kernel
theorem dX8_setFlowWeight_5 : decode cX8_setFlowWeight 5 = .ok (.invokestatic 118, 3) := by decide +kernel
theorem dX8_setFlowWeight_8 : decode cX8_setFlowWeight 8 = .ok (.aload_n 0, 1) := by decide +kernel
theorem dX8_setFlowWeight_9 : decode cX8_setFlowWeight 9 = .ok (.getfield 36, 3) := by decide +kernel
theorem dX8_setFlowWeight_12 : decode cX8_setFlowWeight 12 = .ok (.getfield 121, 3) := by decide +kernel
theorem dX8_setFlowWeight_15 : decode cX8_setFlowWeight 15 = .ok (.getfield 125, 3) := by decide +kernel
theorem dX8_setFlowWeight_18 : decode cX8_setFlowWeight 18 = .ok (.iload_n 1, 1) := by decide +kernel
theorem dX8_setFlowWeight_19 : decode cX8_setFlowWeight 19 = .ok (.iaload, 1) := by decide +kernel
theorem dX8_setFlowWeight_20 : decode cX8_setFlowWeight 20 = .ok (.istore_n 3, 1) := by decide +kernel
theorem dX8_setFlowWeight_21 : decode cX8_setFlowWeight 21 = .ok (.aload_n 0, 1) := by decide +kernel
theorem dX8_setFlowWeight_22 : decode cX8_setFlowWeight 22 = .ok (.getfield 36, 3) := by decide +kernel
theorem dX8_setFlowWeight_25 : decode cX8_setFlowWeight 25 = .ok (.getfield 121, 3) := by decide +kernel
theorem dX8_setFlowWeight_28 : decode cX8_setFlowWeight 28 = .ok (.getfield 125, 3) := by decide +kernel
theorem dX8_setFlowWeight_31 : decode cX8_setFlowWeight 31 = .ok (.iload_n 1, 1) := by decide +kernel
theorem dX8_setFlowWeight_32 : decode cX8_setFlowWeight 32 = .ok (.iload_n 2, 1) := by decide +kernel
theorem dX8_setFlowWeight_33 : decode cX8_setFlowWeight 33 = .ok (.iastore, 1) := by decide +kernel
theorem dX8_setFlowWeight_34 : decode cX8_setFlowWeight 34 = .ok (.iload_n 3, 1) := by decide +kernel
theorem dX8_setFlowWeight_35 : decode cX8_setFlowWeight 35 = .ok (.ireturn, 1) := by decide +kernel
theorem dX8_setNodeWeight_0 : decode cX8_setNodeWeight 0 = .ok (.aload_n 0, 1) := by decide +kernel
theorem dX8_setNodeWeight_1 : decode cX8_setNodeWeight 1 = .ok (.iload_n 1, 1) := by decide +kernel
theorem dX8_setNodeWeight_2 : decode cX8_setNodeWeight 2 = .ok (.invokevirtual 103, 3) := by decide +kernel
theorem dX8_setNodeWeight_5 : decode cX8_setNodeWeight 5 = .ok (.iload_n 2, 1) := by decide +kernel
theorem dX8_setNodeWeight_6 : decode cX8_setNodeWeight 6 = .ok (.invokestatic 118, 3) := by decide +kernel
theorem dX8_setNodeWeight_9 : decode cX8_setNodeWeight 9 = .ok (.aload_n 0, 1) := by decide +kernel
theorem dX8_setNodeWeight_10 : decode cX8_setNodeWeight 10 = .ok (.getfield 36, 3) := by decide +kernel
theorem dX8_setNodeWeight_13 : decode cX8_setNodeWeight 13 = .ok (.getfield 130, 3) := by decide +kernel
theorem dX8_setNodeWeight_16 : decode cX8_setNodeWeight 16 = .ok (.iload_n 1, 1) := by decide +kernel
theorem dX8_setNodeWeight_17 : decode cX8_setNodeWeight 17 = .ok (.aaload, 1) := by decide +kernel
theorem dX8_setNodeWeight_18 : decode cX8_setNodeWeight 18 = .ok (.getfield 134, 3) := by decide +kernel
theorem dX8_setNodeWeight_21 : decode cX8_setNodeWeight 21 = .ok (.istore_n 3, 1) := by decide +kernel
theorem dX8_setNodeWeight_22 : decode cX8_setNodeWeight 22 = .ok (.aload_n 0, 1) := by decide +kernel
theorem dX8_setNodeWeight_23 : decode cX8_setNodeWeight 23 = .ok (.getfield 36, 3) := by decide +kernel
theorem dX8_setNodeWeight_26 : decode cX8_setNodeWeight 26 = .ok (.getfield 130, 3) := by decide +kernel
theorem dX8_setNodeWeight_29 : decode cX8_setNodeWeight 29 = .ok (.iload_n 1, 1) := by decide +kernel
theorem dX8_setNodeWeight_30 : decode cX8_setNodeWeight 30 = .ok (.aaload, 1) := by decide +kernel
theorem dX8_setNodeWeight_31 : decode cX8_setNodeWeight 31 = .ok (.iload_n 2, 1) := by decide +kernel
theorem dX8_setNodeWeight_32 : decode cX8_setNodeWeight 32 = .ok (.putfield 134, 3) := by decide +kernel
theorem dX8_setNodeWeight_35 : decode cX8_setNodeWeight 35 = .ok (.iload_n 3, 1) := by decide +kernel
theorem dX8_setNodeWeight_36 : decode cX8_setNodeWeight 36 = .ok (.ireturn, 1) := by decide +kernel
theorem dX8_assign_0 : decode cX8_assign 0 = .ok (.iload_n 1, 1) := by decide +kernel
theorem dX8_assign_1 : decode cX8_assign 1 = .ok (.invokestatic 115, 3) := by decide +kernel
theorem dX8_assign_4 : decode cX8_assign 4 = .ok (.aload_n 0, 1) := by decide +kernel
theorem dX8_assign_5 : decode cX8_assign 5 = .ok (.iload_n 2, 1) := by decide +kernel
theorem dX8_assign_6 : decode cX8_assign 6 = .ok (.invokevirtual 103, 3) := by decide +kernel
theorem dX8_assign_9 : decode cX8_assign 9 = .ok (.aload_n 0, 1) := by decide +kernel
theorem dX8_assign_10 : decode cX8_assign 10 = .ok (.getfield 36, 3) := by decide +kernel
theorem dX8_assign_13 : decode cX8_assign 13 = .ok (.getfield 90, 3) := by decide +kernel
theorem dX8_assign_16 : decode cX8_assign 16 = .ok (.iload_n 2, 1) := by decide +kernel
theorem dX8_assign_17 : decode cX8_assign 17 = .ok (.invokevirtual 138, 3) := by decide +kernel
theorem dX8_assign_20 : decode cX8_assign 20 = .ok (.ifCond .ne 13, 3) := by decide +kernel
theorem dX8_assign_23 : decode cX8_assign 23 = .ok (.new 51, 3) := by decide +kernel
theorem dX8_assign_26 : decode cX8_assign 26 = .ok (.dup, 1) := by decide +kernel
theorem dX8_assign_27 : decode cX8_assign 27 = .ok (.ldc 142, 2) := by decide +kernel
theorem dX8_assign_29 : decode cX8_assign 29 = .ok (.invokespecial 55, 3) := by decide +kernel
theorem dX8_assign_32 : decode cX8_assign 32 = .ok (.athrow, 1) := by decide +kernel
theorem dX8_assign_33 : decode cX8_assign 33 = .ok (.aload_n 0, 1) := by decide +kernel
theorem dX8_assign_34 : decode cX8_assign 34 = .ok (.getfield 36, 3) := by decide +kernel
theorem dX8_assign_37 : decode cX8_assign 37 = .ok (.getfield 121, 3) := by decide +kernel
theorem dX8_assign_40 : decode cX8_assign 40 = .ok (.getfield 144, 3) := by decide +kernel
theorem dX8_assign_43 : decode cX8_assign 43 = .ok (.iload_n 1, 1) := by decide +kernel
theorem dX8_assign_44 : decode cX8_assign 44 = .ok (.iaload, 1) := by decide +kernel
theorem dX8_assign_45 : decode cX8_assign 45 = .ok (.istore_n 3, 1) := by decide +kernel
theorem dX8_assign_46 : decode cX8_assign 46 = .ok (.aload_n 0, 1) := by decide +kernel
theorem dX8_assign_47 : decode cX8_assign 47 = .ok (.getfield 36, 3) := by decide +kernel
theorem dX8_assign_50 : decode cX8_assign 50 = .ok (.getfield 121, 3) := by decide +kernel
theorem dX8_assign_53 : decode cX8_assign 53 = .ok (.getfield 144, 3) := by decide +kernel
theorem dX8_assign_56 : decode cX8_assign 56 = .ok (.iload_n 1, 1) := by decide +kernel
theorem dX8_assign_57 : decode cX8_assign 57 = .ok (.iload_n 2, 1) := by decide +kernel
theorem dX8_assign_58 : decode cX8_assign 58 = .ok (.iastore, 1) := by decide +kernel
theorem dX8_assign_59 : decode cX8_assign 59 = .ok (.iload_n 3, 1) := by decide +kernel
theorem dX8_assign_60 : decode cX8_assign 60 = .ok (.ireturn, 1) := by decide +kernel
theorem dX8_leafOf_0 : decode cX8_leafOf 0 = .ok (.iload_n 1, 1) := by decide +kernel
theorem dX8_leafOf_1 : decode cX8_leafOf 1 = .ok (.invokestatic 115, 3) := by decide +kernel
theorem dX8_leafOf_4 : decode cX8_leafOf 4 = .ok (.aload_n 0, 1) := by decide +kernel
theorem dX8_leafOf_5 : decode cX8_leafOf 5 = .ok (.getfield 36, 3) := by decide +kernel
theorem dX8_leafOf_8 : decode cX8_leafOf 8 = .ok (.getfield 121, 3) := by decide +kernel
theorem dX8_leafOf_11 : decode cX8_leafOf 11 = .ok (.getfield 144, 3) := by decide +kernel
theorem dX8_leafOf_14 : decode cX8_leafOf 14 = .ok (.iload_n 1, 1) := by decide +kernel
theorem dX8_leafOf_15 : decode cX8_leafOf 15 = .ok (.iaload, 1) := by decide +kernel
theorem dX8_leafOf_16 : decode cX8_leafOf 16 = .ok (.ireturn, 1) := by decide +kernel
theorem dX8_setLinkRate_0 : decode cX8_setLinkRate 0 = .ok (.iload_n 1, 1) := by decide +kernel
theorem dX8_setLinkRate_1 : decode cX8_setLinkRate 1 = .ok (.iconst 1, 1) := by decide +kernel
theorem dX8_setLinkRate_2 : decode cX8_setLinkRate 2 = .ok (.if_icmp .lt 10, 3) := by decide +kernel
theorem dX8_setLinkRate_5 : decode cX8_setLinkRate 5 = .ok (.iload_n 1, 1) := by decide +kernel
theorem dX8_setLinkRate_6 : decode cX8_setLinkRate 6 = .ok (.sipush 9999, 3) := by decide +kernel
theorem dX8_setLinkRate_9 : decode cX8_setLinkRate 9 = .ok (.if_icmp .le 13, 3) := by decide +kernel
theorem dX8_setLinkRate_12 : decode cX8_setLinkRate 12 = .ok (.new 51, 3) := by decide +kernel
theorem dX8_setLinkRate_15 : decode cX8_setLinkRate 15 = .ok (.dup, 1) := by decide +kernel
theorem dX8_setLinkRate_16 : decode cX8_setLinkRate 16 = .ok (.ldc 147, 2) := by decide +kernel
theorem dX8_setLinkRate_18 : decode cX8_setLinkRate 18 = .ok (.invokespecial 55, 3) := by decide +kernel
theorem dX8_setLinkRate_21 : decode cX8_setLinkRate 21 = .ok (.athrow, 1) := by decide +kernel
theorem dX8_setLinkRate_22 : decode cX8_setLinkRate 22 = .ok (.aload_n 0, 1) := by decide +kernel
theorem dX8_setLinkRate_23 : decode cX8_setLinkRate 23 = .ok (.getfield 36, 3) := by decide +kernel
theorem dX8_setLinkRate_26 : decode cX8_setLinkRate 26 = .ok (.getfield 43, 3) := by decide +kernel
theorem dX8_setLinkRate_29 : decode cX8_setLinkRate 29 = .ok (.istore_n 2, 1) := by decide +kernel
theorem dX8_setLinkRate_30 : decode cX8_setLinkRate 30 = .ok (.aload_n 0, 1) := by decide +kernel
theorem dX8_setLinkRate_31 : decode cX8_setLinkRate 31 = .ok (.getfield 36, 3) := by decide +kernel
theorem dX8_setLinkRate_34 : decode cX8_setLinkRate 34 = .ok (.iload_n 1, 1) := by decide +kernel
theorem dX8_setLinkRate_35 : decode cX8_setLinkRate 35 = .ok (.putfield 43, 3) := by decide +kernel
theorem dX8_setLinkRate_38 : decode cX8_setLinkRate 38 = .ok (.iload_n 2, 1) := by decide +kernel
theorem dX8_setLinkRate_39 : decode cX8_setLinkRate 39 = .ok (.ireturn, 1) := by decide +kernel
theorem dX8_enqueue_0 : decode cX8_enqueue 0 = .ok (.iload_n 1, 1) := by decide +kernel
theorem dX8_enqueue_1 : decode cX8_enqueue 1 = .ok (.invokestatic 115, 3) := by decide +kernel
theorem dX8_enqueue_4 : decode cX8_enqueue 4 = .ok (.iload_n 2, 1) := by decide +kernel
theorem dX8_enqueue_5 : decode cX8_enqueue 5 = .ok (.iload_n 3, 1) := by decide +kernel
theorem dX8_enqueue_6 : decode cX8_enqueue 6 = .ok (.iload 4, 2) := by decide +kernel
theorem dX8_enqueue_8 : decode cX8_enqueue 8 = .ok (.invokestatic 149, 3) := by decide +kernel
theorem dX8_enqueue_11 : decode cX8_enqueue 11 = .ok (.aload_n 0, 1) := by decide +kernel
theorem dX8_enqueue_12 : decode cX8_enqueue 12 = .ok (.getfield 36, 3) := by decide +kernel
theorem dX8_enqueue_15 : decode cX8_enqueue 15 = .ok (.invokevirtual 153, 3) := by decide +kernel
theorem dX8_enqueue_18 : decode cX8_enqueue 18 = .ok (.bipush 64, 2) := by decide +kernel
theorem dX8_enqueue_20 : decode cX8_enqueue 20 = .ok (.if_icmp .lt 13, 3) := by decide +kernel
theorem dX8_enqueue_23 : decode cX8_enqueue 23 = .ok (.new 61, 3) := by decide +kernel
theorem dX8_enqueue_26 : decode cX8_enqueue 26 = .ok (.dup, 1) := by decide +kernel
theorem dX8_enqueue_27 : decode cX8_enqueue 27 = .ok (.ldc 156, 2) := by decide +kernel
theorem dX8_enqueue_29 : decode cX8_enqueue 29 = .ok (.invokespecial 65, 3) := by decide +kernel
theorem dX8_enqueue_32 : decode cX8_enqueue 32 = .ok (.athrow, 1) := by decide +kernel
theorem dX8_enqueue_33 : decode cX8_enqueue 33 = .ok (.aload_n 0, 1) := by decide +kernel
theorem dX8_enqueue_34 : decode cX8_enqueue 34 = .ok (.getfield 36, 3) := by decide +kernel
theorem dX8_enqueue_37 : decode cX8_enqueue 37 = .ok (.getfield 158, 3) := by decide +kernel
theorem dX8_enqueue_40 : decode cX8_enqueue 40 = .ok (.getfield 162, 3) := by decide +kernel
theorem dX8_enqueue_43 : decode cX8_enqueue 43 = .ok (.sipush 500, 3) := by decide +kernel
theorem dX8_enqueue_46 : decode cX8_enqueue 46 = .ok (.if_icmp .lt 13, 3) := by decide +kernel
theorem dX8_enqueue_49 : decode cX8_enqueue 49 = .ok (.new 61, 3) := by decide +kernel
theorem dX8_enqueue_52 : decode cX8_enqueue 52 = .ok (.dup, 1) := by decide +kernel
theorem dX8_enqueue_53 : decode cX8_enqueue 53 = .ok (.ldc 167, 2) := by decide +kernel
theorem dX8_enqueue_55 : decode cX8_enqueue 55 = .ok (.invokespecial 65, 3) := by decide +kernel
theorem dX8_enqueue_58 : decode cX8_enqueue 58 = .ok (.athrow, 1) := by decide +kernel
theorem dX8_enqueue_59 : decode cX8_enqueue 59 = .ok (.aload_n 0, 1) := by decide +kernel
theorem dX8_enqueue_60 : decode cX8_enqueue 60 = .ok (.getfield 36, 3) := by decide +kernel
theorem dX8_enqueue_63 : decode cX8_enqueue 63 = .ok (.iload_n 1, 1) := by decide +kernel
theorem dX8_enqueue_64 : decode cX8_enqueue 64 = .ok (.iload_n 2, 1) := by decide +kernel
theorem dX8_enqueue_65 : decode cX8_enqueue 65 = .ok (.iload_n 3, 1) := by decide +kernel
theorem dX8_enqueue_66 : decode cX8_enqueue 66 = .ok (.iload 4, 2) := by decide +kernel
theorem dX8_enqueue_68 : decode cX8_enqueue 68 = .ok (.invokevirtual 169, 3) := by decide +kernel
theorem dX8_enqueue_71 : decode cX8_enqueue 71 = .ok (.ireturn, 1) := by decide +kernel
theorem dX8_dequeue_0 : decode cX8_dequeue 0 = .ok (.aload_n 0, 1) := by decide +kernel
theorem dX8_dequeue_1 : decode cX8_dequeue 1 = .ok (.getfield 36, 3) := by decide +kernel
theorem dX8_dequeue_4 : decode cX8_dequeue 4 = .ok (.invokevirtual 173, 3) := by decide +kernel
theorem dX8_dequeue_7 : decode cX8_dequeue 7 = .ok (.istore_n 1, 1) := by decide +kernel
theorem dX8_dequeue_8 : decode cX8_dequeue 8 = .ok (.aload_n 0, 1) := by decide +kernel
theorem dX8_dequeue_9 : decode cX8_dequeue 9 = .ok (.getfield 36, 3) := by decide +kernel
theorem dX8_dequeue_12 : decode cX8_dequeue 12 = .ok (.iload_n 1, 1) := by decide +kernel
theorem dX8_dequeue_13 : decode cX8_dequeue 13 = .ok (.aload_n 0, 1) := by decide +kernel
theorem dX8_dequeue_14 : decode cX8_dequeue 14 = .ok (.getfield 36, 3) := by decide +kernel
theorem dX8_dequeue_17 : decode cX8_dequeue 17 = .ok (.getfield 176, 3) := by decide +kernel
theorem dX8_dequeue_20 : decode cX8_dequeue 20 = .ok (.invokevirtual 180, 3) := by decide +kernel
theorem dX8_dequeue_23 : decode cX8_dequeue 23 = .ok (.iload_n 1, 1) := by decide +kernel
theorem dX8_dequeue_24 : decode cX8_dequeue 24 = .ok (.ireturn, 1) := by decide +kernel
theorem dX8_transmit_0 : decode cX8_transmit 0 = .ok (.aload_n 0, 1) := by decide +kernel
theorem dX8_transmit_1 : decode cX8_transmit 1 = .ok (.getfield 36, 3) := by decide +kernel
theorem dX8_transmit_4 : decode cX8_transmit 4 = .ok (.invokevirtual 184, 3) := by decide +kernel
theorem dX8_transmit_7 : decode cX8_transmit 7 = .ok (.ireturn, 1) := by decide +kernel
theorem dX8_advance_0 : decode cX8_advance 0 = .ok (.iload_n 1, 1) := by decide +kernel
theorem dX8_advance_1 : decode cX8_advance 1 = .ok (.ifCond .ge 13, 3) := by decide +kernel
theorem dX8_advance_4 : decode cX8_advance 4 = .ok (.new 51, 3) := by decide +kernel
theorem dX8_advance_7 : decode cX8_advance 7 = .ok (.dup, 1) := by decide +kernel
theorem dX8_advance_8 : decode cX8_advance 8 = .ok (.ldc 187, 2) := by decide +kernel
theorem dX8_advance_10 : decode cX8_advance 10 = .ok (.invokespecial 55, 3) := by decide +kernel
theorem dX8_advance_13 : decode cX8_advance 13 = .ok (.athrow, 1) := by decide +kernel
theorem dX8_advance_14 : decode cX8_advance 14 = .ok (.aload_n 0, 1) := by decide +kernel
theorem dX8_advance_15 : decode cX8_advance 15 = .ok (.getfield 36, 3) := by decide +kernel
theorem dX8_advance_18 : decode cX8_advance 18 = .ok (.aload_n 0, 1) := by decide +kernel
theorem dX8_advance_19 : decode cX8_advance 19 = .ok (.getfield 36, 3) := by decide +kernel
theorem dX8_advance_22 : decode cX8_advance 22 = .ok (.getfield 176, 3) := by decide +kernel
theorem dX8_advance_25 : decode cX8_advance 25 = .ok (.iload_n 1, 1) := by decide +kernel
theorem dX8_advance_26 : decode cX8_advance 26 = .ok (.i2l, 1) := by decide +kernel
theorem dX8_advance_27 : decode cX8_advance 27 = .ok (.ladd, 1) := by decide +kernel
theorem dX8_advance_28 : decode cX8_advance 28 = .ok (.invokevirtual 189, 3) := by decide +kernel
theorem dX8_advance_31 : decode cX8_advance 31 = .ok (.ireturn, 1) := by decide +kernel
theorem dX8_time_0 : decode cX8_time 0 = .ok (.aload_n 0, 1) := by decide +kernel
theorem dX8_time_1 : decode cX8_time 1 = .ok (.getfield 36, 3) := by decide +kernel
theorem dX8_time_4 : decode cX8_time 4 = .ok (.getfield 176, 3) := by decide +kernel
theorem dX8_time_7 : decode cX8_time 7 = .ok (.lreturn, 1) := by decide +kernel
theorem dX8_nextRelease_0 : decode cX8_nextRelease 0 = .ok (.aload_n 0, 1) := by decide +kernel
theorem dX8_nextRelease_1 : decode cX8_nextRelease 1 = .ok (.getfield 36, 3) := by decide +kernel
theorem dX8_nextRelease_4 : decode cX8_nextRelease 4 = .ok (.getfield 193, 3) := by decide +kernel
theorem dX8_nextRelease_7 : decode cX8_nextRelease 7 = .ok (.invokevirtual 197, 3) := by decide +kernel
theorem dX8_nextRelease_10 : decode cX8_nextRelease 10 = .ok (.lreturn, 1) := by decide +kernel
theorem dX8_shaped_0 : decode cX8_shaped 0 = .ok (.aload_n 0, 1) := by decide +kernel
theorem dX8_shaped_1 : decode cX8_shaped 1 = .ok (.getfield 36, 3) := by decide +kernel
theorem dX8_shaped_4 : decode cX8_shaped 4 = .ok (.getfield 193, 3) := by decide +kernel
theorem dX8_shaped_7 : decode cX8_shaped 7 = .ok (.getfield 203, 3) := by decide +kernel
theorem dX8_shaped_10 : decode cX8_shaped 10 = .ok (.ireturn, 1) := by decide +kernel
theorem dX8_waiting_0 : decode cX8_waiting 0 = .ok (.aload_n 0, 1) := by decide +kernel
theorem dX8_waiting_1 : decode cX8_waiting 1 = .ok (.getfield 36, 3) := by decide +kernel
theorem dX8_waiting_4 : decode cX8_waiting 4 = .ok (.invokevirtual 153, 3) := by decide +kernel
theorem dX8_waiting_7 : decode cX8_waiting 7 = .ok (.ireturn, 1) := by decide +kernel
theorem dX8_queueLength_0 : decode cX8_queueLength 0 = .ok (.aload_n 0, 1) := by decide +kernel
theorem dX8_queueLength_1 : decode cX8_queueLength 1 = .ok (.iload_n 1, 1) := by decide +kernel
theorem dX8_queueLength_2 : decode cX8_queueLength 2 = .ok (.invokevirtual 103, 3) := by decide +kernel
theorem dX8_queueLength_5 : decode cX8_queueLength 5 = .ok (.aload_n 0, 1) := by decide +kernel
theorem dX8_queueLength_6 : decode cX8_queueLength 6 = .ok (.getfield 36, 3) := by decide +kernel
theorem dX8_queueLength_9 : decode cX8_queueLength 9 = .ok (.getfield 130, 3) := by decide +kernel
theorem dX8_queueLength_12 : decode cX8_queueLength 12 = .ok (.iload_n 1, 1) := by decide +kernel
theorem dX8_queueLength_13 : decode cX8_queueLength 13 = .ok (.aaload, 1) := by decide +kernel
theorem dX8_queueLength_14 : decode cX8_queueLength 14 = .ok (.getfield 206, 3) := by decide +kernel
theorem dX8_queueLength_17 : decode cX8_queueLength 17 = .ok (.ireturn, 1) := by decide +kernel
theorem dX8_queueItem_0 : decode cX8_queueItem 0 = .ok (.aload_n 0, 1) := by decide +kernel
theorem dX8_queueItem_1 : decode cX8_queueItem 1 = .ok (.iload_n 1, 1) := by decide +kernel
theorem dX8_queueItem_2 : decode cX8_queueItem 2 = .ok (.iload_n 2, 1) := by decide +kernel
theorem dX8_queueItem_3 : decode cX8_queueItem 3 = .ok (.invokevirtual 207, 3) := by decide +kernel
theorem dX8_queueItem_6 : decode cX8_queueItem 6 = .ok (.aload_n 0, 1) := by decide +kernel
theorem dX8_queueItem_7 : decode cX8_queueItem 7 = .ok (.getfield 36, 3) := by decide +kernel
theorem dX8_queueItem_10 : decode cX8_queueItem 10 = .ok (.getfield 130, 3) := by decide +kernel
theorem dX8_queueItem_13 : decode cX8_queueItem 13 = .ok (.iload_n 1, 1) := by decide +kernel
theorem dX8_queueItem_14 : decode cX8_queueItem 14 = .ok (.aaload, 1) := by decide +kernel
theorem dX8_queueItem_15 : decode cX8_queueItem 15 = .ok (.getfield 211, 3) := by decide +kernel
theorem dX8_queueItem_18 : decode cX8_queueItem 18 = .ok (.iload_n 2, 1) := by decide +kernel
theorem dX8_queueItem_19 : decode cX8_queueItem 19 = .ok (.iaload, 1) := by decide +kernel
theorem dX8_queueItem_20 : decode cX8_queueItem 20 = .ok (.ireturn, 1) := by decide +kernel
theorem dX8_queueRank_0 : decode cX8_queueRank 0 = .ok (.aload_n 0, 1) := by decide +kernel
theorem dX8_queueRank_1 : decode cX8_queueRank 1 = .ok (.iload_n 1, 1) := by decide +kernel
theorem dX8_queueRank_2 : decode cX8_queueRank 2 = .ok (.iload_n 2, 1) := by decide +kernel
theorem dX8_queueRank_3 : decode cX8_queueRank 3 = .ok (.invokevirtual 207, 3) := by decide +kernel
theorem dX8_queueRank_6 : decode cX8_queueRank 6 = .ok (.aload_n 0, 1) := by decide +kernel
theorem dX8_queueRank_7 : decode cX8_queueRank 7 = .ok (.getfield 36, 3) := by decide +kernel
theorem dX8_queueRank_10 : decode cX8_queueRank 10 = .ok (.getfield 130, 3) := by decide +kernel
theorem dX8_queueRank_13 : decode cX8_queueRank 13 = .ok (.iload_n 1, 1) := by decide +kernel
theorem dX8_queueRank_14 : decode cX8_queueRank 14 = .ok (.aaload, 1) := by decide +kernel
theorem dX8_queueRank_15 : decode cX8_queueRank 15 = .ok (.getfield 214, 3) := by decide +kernel
theorem dX8_queueRank_18 : decode cX8_queueRank 18 = .ok (.iload_n 2, 1) := by decide +kernel
theorem dX8_queueRank_19 : decode cX8_queueRank 19 = .ok (.laload, 1) := by decide +kernel
theorem dX8_queueRank_20 : decode cX8_queueRank 20 = .ok (.lreturn, 1) := by decide +kernel
theorem dX8_virtualTime_0 : decode cX8_virtualTime 0 = .ok (.aload_n 0, 1) := by decide +kernel
theorem dX8_virtualTime_1 : decode cX8_virtualTime 1 = .ok (.iload_n 1, 1) := by decide +kernel
theorem dX8_virtualTime_2 : decode cX8_virtualTime 2 = .ok (.invokevirtual 103, 3) := by decide +kernel
theorem dX8_virtualTime_5 : decode cX8_virtualTime 5 = .ok (.aload_n 0, 1) := by decide +kernel
theorem dX8_virtualTime_6 : decode cX8_virtualTime 6 = .ok (.getfield 36, 3) := by decide +kernel
theorem dX8_virtualTime_9 : decode cX8_virtualTime 9 = .ok (.getfield 130, 3) := by decide +kernel
theorem dX8_virtualTime_12 : decode cX8_virtualTime 12 = .ok (.iload_n 1, 1) := by decide +kernel
theorem dX8_virtualTime_13 : decode cX8_virtualTime 13 = .ok (.aaload, 1) := by decide +kernel
theorem dX8_virtualTime_14 : decode cX8_virtualTime 14 = .ok (.getfield 218, 3) := by decide +kernel
theorem dX8_virtualTime_17 : decode cX8_virtualTime 17 = .ok (.lreturn, 1) := by decide +kernel
theorem dX8_state_0 : decode cX8_state 0 = .ok (.aload_n 0, 1) := by decide +kernel
theorem dX8_state_1 : decode cX8_state 1 = .ok (.iload_n 1, 1) := by decide +kernel
theorem dX8_state_2 : decode cX8_state 2 = .ok (.invokevirtual 103, 3) := by decide +kernel
theorem dX8_state_5 : decode cX8_state 5 = .ok (.aload_n 0, 1) := by decide +kernel
theorem dX8_state_6 : decode cX8_state 6 = .ok (.getfield 36, 3) := by decide +kernel
theorem dX8_state_9 : decode cX8_state 9 = .ok (.getfield 90, 3) := by decide +kernel
theorem dX8_state_12 : decode cX8_state 12 = .ok (.iload_n 1, 1) := by decide +kernel
theorem dX8_state_13 : decode cX8_state 13 = .ok (.iload_n 2, 1) := by decide +kernel
theorem dX8_state_14 : decode cX8_state 14 = .ok (.invokevirtual 221, 3) := by decide +kernel
theorem dX8_state_17 : decode cX8_state 17 = .ok (.ifCond .ne 13, 3) := by decide +kernel
theorem dX8_state_20 : decode cX8_state 20 = .ok (.new 51, 3) := by decide +kernel
theorem dX8_state_23 : decode cX8_state 23 = .ok (.dup, 1) := by decide +kernel
theorem dX8_state_24 : decode cX8_state 24 = .ok (.ldc 225, 2) := by decide +kernel
theorem dX8_state_26 : decode cX8_state 26 = .ok (.invokespecial 55, 3) := by decide +kernel
theorem dX8_state_29 : decode cX8_state 29 = .ok (.athrow, 1) := by decide +kernel
theorem dX8_state_30 : decode cX8_state 30 = .ok (.aload_n 0, 1) := by decide +kernel
theorem dX8_state_31 : decode cX8_state 31 = .ok (.getfield 36, 3) := by decide +kernel
theorem dX8_state_34 : decode cX8_state 34 = .ok (.getfield 130, 3) := by decide +kernel
theorem dX8_state_37 : decode cX8_state 37 = .ok (.iload_n 1, 1) := by decide +kernel
theorem dX8_state_38 : decode cX8_state 38 = .ok (.aaload, 1) := by decide +kernel
theorem dX8_state_39 : decode cX8_state 39 = .ok (.getfield 227, 3) := by decide +kernel
theorem dX8_state_42 : decode cX8_state 42 = .ok (.iload_n 2, 1) := by decide +kernel
theorem dX8_state_43 : decode cX8_state 43 = .ok (.laload, 1) := by decide +kernel
theorem dX8_state_44 : decode cX8_state 44 = .ok (.lreturn, 1) := by decide +kernel
theorem dX8_rankIf_0 : decode cX8_rankIf 0 = .ok (.iload_n 1, 1) := by decide +kernel
theorem dX8_rankIf_1 : decode cX8_rankIf 1 = .ok (.invokestatic 115, 3) := by decide +kernel
theorem dX8_rankIf_4 : decode cX8_rankIf 4 = .ok (.iload_n 2, 1) := by decide +kernel
theorem dX8_rankIf_5 : decode cX8_rankIf 5 = .ok (.iload_n 3, 1) := by decide +kernel
theorem dX8_rankIf_6 : decode cX8_rankIf 6 = .ok (.iload 4, 2) := by decide +kernel
theorem dX8_rankIf_8 : decode cX8_rankIf 8 = .ok (.invokestatic 149, 3) := by decide +kernel
theorem dX8_rankIf_11 : decode cX8_rankIf 11 = .ok (.aload_n 0, 1) := by decide +kernel
theorem dX8_rankIf_12 : decode cX8_rankIf 12 = .ok (.getfield 36, 3) := by decide +kernel
theorem dX8_rankIf_15 : decode cX8_rankIf 15 = .ok (.iload_n 1, 1) := by decide +kernel
theorem dX8_rankIf_16 : decode cX8_rankIf 16 = .ok (.iload_n 2, 1) := by decide +kernel
theorem dX8_rankIf_17 : decode cX8_rankIf 17 = .ok (.iload_n 3, 1) := by decide +kernel
theorem dX8_rankIf_18 : decode cX8_rankIf 18 = .ok (.iload 4, 2) := by decide +kernel
theorem dX8_rankIf_20 : decode cX8_rankIf 20 = .ok (.invokevirtual 230, 3) := by decide +kernel
theorem dX8_rankIf_23 : decode cX8_rankIf 23 = .ok (.lreturn, 1) := by decide +kernel
theorem dX8_peek_0 : decode cX8_peek 0 = .ok (.iload_n 1, 1) := by decide +kernel
theorem dX8_peek_1 : decode cX8_peek 1 = .ok (.ifCond .ge 13, 3) := by decide +kernel
theorem dX8_peek_4 : decode cX8_peek 4 = .ok (.new 98, 3) := by decide +kernel
theorem dX8_peek_7 : decode cX8_peek 7 = .ok (.dup, 1) := by decide +kernel
theorem dX8_peek_8 : decode cX8_peek 8 = .ok (.ldc 234, 2) := by decide +kernel
theorem dX8_peek_10 : decode cX8_peek 10 = .ok (.invokespecial 102, 3) := by decide +kernel
theorem dX8_peek_13 : decode cX8_peek 13 = .ok (.athrow, 1) := by decide +kernel
theorem dX8_peek_14 : decode cX8_peek 14 = .ok (.aload_n 0, 1) := by decide +kernel
theorem dX8_peek_15 : decode cX8_peek 15 = .ok (.getfield 40, 3) := by decide +kernel
theorem dX8_peek_18 : decode cX8_peek 18 = .ok (.aload_n 0, 1) := by decide +kernel
theorem dX8_peek_19 : decode cX8_peek 19 = .ok (.getfield 36, 3) := by decide +kernel
theorem dX8_peek_22 : decode cX8_peek 22 = .ok (.invokevirtual 236, 3) := by decide +kernel
theorem dX8_peek_25 : decode cX8_peek 25 = .ok (.iconst (-1), 1) := by decide +kernel
theorem dX8_peek_26 : decode cX8_peek 26 = .ok (.istore_n 2, 1) := by decide +kernel
theorem dX8_peek_27 : decode cX8_peek 27 = .ok (.iconst 0, 1) := by decide +kernel
theorem dX8_peek_28 : decode cX8_peek 28 = .ok (.istore_n 3, 1) := by decide +kernel
theorem dX8_peek_29 : decode cX8_peek 29 = .ok (.iload_n 3, 1) := by decide +kernel
theorem dX8_peek_30 : decode cX8_peek 30 = .ok (.iload_n 1, 1) := by decide +kernel
theorem dX8_peek_31 : decode cX8_peek 31 = .ok (.if_icmp .gt 23, 3) := by decide +kernel
theorem dX8_peek_34 : decode cX8_peek 34 = .ok (.iload_n 3, 1) := by decide +kernel
theorem dX8_peek_35 : decode cX8_peek 35 = .ok (.bipush 64, 2) := by decide +kernel
theorem dX8_peek_37 : decode cX8_peek 37 = .ok (.if_icmp .gt 17, 3) := by decide +kernel
theorem dX8_peek_40 : decode cX8_peek 40 = .ok (.aload_n 0, 1) := by decide +kernel
theorem dX8_peek_41 : decode cX8_peek 41 = .ok (.getfield 40, 3) := by decide +kernel
theorem dX8_peek_44 : decode cX8_peek 44 = .ok (.invokevirtual 173, 3) := by decide +kernel
theorem dX8_peek_47 : decode cX8_peek 47 = .ok (.istore_n 2, 1) := by decide +kernel
theorem dX8_peek_48 : decode cX8_peek 48 = .ok (.iinc 3 1, 3) := by decide +kernel
theorem dX8_peek_51 : decode cX8_peek 51 = .ok (.goto (-22), 3) := by decide +kernel
theorem dX8_peek_54 : decode cX8_peek 54 = .ok (.iload_n 2, 1) := by decide +kernel
theorem dX8_peek_55 : decode cX8_peek 55 = .ok (.ireturn, 1) := by decide +kernel
theorem dX8_departureIf_0 : decode cX8_departureIf 0 = .ok (.aload_n 0, 1) := by decide +kernel
theorem dX8_departureIf_1 : decode cX8_departureIf 1 = .ok (.getfield 36, 3) := by decide +kernel
theorem dX8_departureIf_4 : decode cX8_departureIf 4 = .ok (.getfield 158, 3) := by decide +kernel
theorem dX8_departureIf_7 : decode cX8_departureIf 7 = .ok (.iload_n 1, 1) := by decide +kernel
theorem dX8_departureIf_8 : decode cX8_departureIf 8 = .ok (.invokevirtual 240, 3) := by decide +kernel
theorem dX8_departureIf_11 : decode cX8_departureIf 11 = .ok (.ifCond .eq 20, 3) := by decide +kernel
theorem dX8_departureIf_14 : decode cX8_departureIf 14 = .ok (.aload_n 0, 1) := by decide +kernel
theorem dX8_departureIf_15 : decode cX8_departureIf 15 = .ok (.getfield 36, 3) := by decide +kernel
theorem dX8_departureIf_18 : decode cX8_departureIf 18 = .ok (.getfield 158, 3) := by decide +kernel
theorem dX8_departureIf_21 : decode cX8_departureIf 21 = .ok (.getfield 243, 3) := by decide +kernel
theorem dX8_departureIf_24 : decode cX8_departureIf 24 = .ok (.iload_n 1, 1) := by decide +kernel
theorem dX8_departureIf_25 : decode cX8_departureIf 25 = .ok (.laload, 1) := by decide +kernel
theorem dX8_departureIf_26 : decode cX8_departureIf 26 = .ok (.lconst 0, 1) := by decide +kernel
theorem dX8_departureIf_27 : decode cX8_departureIf 27 = .ok (.lcmp, 1) := by decide +kernel
theorem dX8_departureIf_28 : decode cX8_departureIf 28 = .ok (.ifCond .lt 13, 3) := by decide +kernel
theorem dX8_departureIf_31 : decode cX8_departureIf 31 = .ok (.new 51, 3) := by decide +kernel
theorem dX8_departureIf_34 : decode cX8_departureIf 34 = .ok (.dup, 1) := by decide +kernel
theorem dX8_departureIf_35 : decode cX8_departureIf 35 = .ok (.ldc 246, 2) := by decide +kernel
theorem dX8_departureIf_37 : decode cX8_departureIf 37 = .ok (.invokespecial 55, 3) := by decide +kernel
theorem dX8_departureIf_40 : decode cX8_departureIf 40 = .ok (.athrow, 1) := by decide +kernel
theorem dX8_departureIf_41 : decode cX8_departureIf 41 = .ok (.aload_n 0, 1) := by decide +kernel
theorem dX8_departureIf_42 : decode cX8_departureIf 42 = .ok (.getfield 40, 3) := by decide +kernel
theorem dX8_departureIf_45 : decode cX8_departureIf 45 = .ok (.aload_n 0, 1) := by decide +kernel
theorem dX8_departureIf_46 : decode cX8_departureIf 46 = .ok (.getfield 36, 3) := by decide +kernel
theorem dX8_departureIf_49 : decode cX8_departureIf 49 = .ok (.invokevirtual 236, 3) := by decide +kernel
theorem dX8_departureIf_52 : decode cX8_departureIf 52 = .ok (.iconst 0, 1) := by decide +kernel
theorem dX8_departureIf_53 : decode cX8_departureIf 53 = .ok (.istore_n 2, 1) := by decide +kernel
theorem dX8_departureIf_54 : decode cX8_departureIf 54 = .ok (.iload_n 2, 1) := by decide +kernel
theorem dX8_departureIf_55 : decode cX8_departureIf 55 = .ok (.sipush 832, 3) := by decide +kernel
theorem dX8_departureIf_58 : decode cX8_departureIf 58 = .ok (.if_icmp .gt 57, 3) := by decide +kernel
theorem dX8_departureIf_61 : decode cX8_departureIf 61 = .ok (.aload_n 0, 1) := by decide +kernel
theorem dX8_departureIf_62 : decode cX8_departureIf 62 = .ok (.getfield 40, 3) := by decide +kernel
theorem dX8_departureIf_65 : decode cX8_departureIf 65 = .ok (.invokevirtual 184, 3) := by decide +kernel
theorem dX8_departureIf_68 : decode cX8_departureIf 68 = .ok (.istore_n 3, 1) := by decide +kernel
theorem dX8_departureIf_69 : decode cX8_departureIf 69 = .ok (.iload_n 3, 1) := by decide +kernel
theorem dX8_departureIf_70 : decode cX8_departureIf 70 = .ok (.iload_n 1, 1) := by decide +kernel
theorem dX8_departureIf_71 : decode cX8_departureIf 71 = .ok (.if_icmp .ne 16, 3) := by decide +kernel
theorem dX8_departureIf_74 : decode cX8_departureIf 74 = .ok (.aload_n 0, 1) := by decide +kernel
theorem dX8_departureIf_75 : decode cX8_departureIf 75 = .ok (.getfield 40, 3) := by decide +kernel
theorem dX8_departureIf_78 : decode cX8_departureIf 78 = .ok (.getfield 158, 3) := by decide +kernel
theorem dX8_departureIf_81 : decode cX8_departureIf 81 = .ok (.getfield 243, 3) := by decide +kernel
theorem dX8_departureIf_84 : decode cX8_departureIf 84 = .ok (.iload_n 1, 1) := by decide +kernel
theorem dX8_departureIf_85 : decode cX8_departureIf 85 = .ok (.laload, 1) := by decide +kernel
theorem dX8_departureIf_86 : decode cX8_departureIf 86 = .ok (.lreturn, 1) := by decide +kernel
theorem dX8_departureIf_87 : decode cX8_departureIf 87 = .ok (.iload_n 3, 1) := by decide +kernel
theorem dX8_departureIf_88 : decode cX8_departureIf 88 = .ok (.ifCond .ge 21, 3) := by decide +kernel
theorem dX8_departureIf_91 : decode cX8_departureIf 91 = .ok (.aload_n 0, 1) := by decide +kernel
theorem dX8_departureIf_92 : decode cX8_departureIf 92 = .ok (.getfield 40, 3) := by decide +kernel
theorem dX8_departureIf_95 : decode cX8_departureIf 95 = .ok (.aload_n 0, 1) := by decide +kernel
theorem dX8_departureIf_96 : decode cX8_departureIf 96 = .ok (.getfield 40, 3) := by decide +kernel
theorem dX8_departureIf_99 : decode cX8_departureIf 99 = .ok (.getfield 193, 3) := by decide +kernel
theorem dX8_departureIf_102 : decode cX8_departureIf 102 = .ok (.invokevirtual 197, 3) := by decide +kernel
theorem dX8_departureIf_105 : decode cX8_departureIf 105 = .ok (.invokevirtual 189, 3) := by decide +kernel
theorem dX8_departureIf_108 : decode cX8_departureIf 108 = .ok (.pop, 1) := by decide +kernel
theorem dX8_departureIf_109 : decode cX8_departureIf 109 = .ok (.iinc 2 1, 3) := by decide +kernel
theorem dX8_departureIf_112 : decode cX8_departureIf 112 = .ok (.goto (-58), 3) := by decide +kernel
theorem dX8_departureIf_115 : decode cX8_departureIf 115 = .ok (.ldc2_w 248, 3) := by decide +kernel
theorem dX8_departureIf_118 : decode cX8_departureIf 118 = .ok (.lreturn, 1) := by decide +kernel
theorem dX8_flowOf_0 : decode cX8_flowOf 0 = .ok (.aload_n 0, 1) := by decide +kernel
theorem dX8_flowOf_1 : decode cX8_flowOf 1 = .ok (.iload_n 1, 1) := by decide +kernel
theorem dX8_flowOf_2 : decode cX8_flowOf 2 = .ok (.invokevirtual 250, 3) := by decide +kernel
theorem dX8_flowOf_5 : decode cX8_flowOf 5 = .ok (.aload_n 0, 1) := by decide +kernel
theorem dX8_flowOf_6 : decode cX8_flowOf 6 = .ok (.getfield 36, 3) := by decide +kernel
theorem dX8_flowOf_9 : decode cX8_flowOf 9 = .ok (.getfield 158, 3) := by decide +kernel
theorem dX8_flowOf_12 : decode cX8_flowOf 12 = .ok (.getfield 253, 3) := by decide +kernel
theorem dX8_flowOf_15 : decode cX8_flowOf 15 = .ok (.iload_n 1, 1) := by decide +kernel
theorem dX8_flowOf_16 : decode cX8_flowOf 16 = .ok (.iaload, 1) := by decide +kernel
theorem dX8_flowOf_17 : decode cX8_flowOf 17 = .ok (.ireturn, 1) := by decide +kernel
theorem dX8_deadlineOf_0 : decode cX8_deadlineOf 0 = .ok (.aload_n 0, 1) := by decide +kernel
theorem dX8_deadlineOf_1 : decode cX8_deadlineOf 1 = .ok (.iload_n 1, 1) := by decide +kernel
theorem dX8_deadlineOf_2 : decode cX8_deadlineOf 2 = .ok (.invokevirtual 250, 3) := by decide +kernel
theorem dX8_deadlineOf_5 : decode cX8_deadlineOf 5 = .ok (.aload_n 0, 1) := by decide +kernel
theorem dX8_deadlineOf_6 : decode cX8_deadlineOf 6 = .ok (.getfield 36, 3) := by decide +kernel
theorem dX8_deadlineOf_9 : decode cX8_deadlineOf 9 = .ok (.getfield 158, 3) := by decide +kernel
theorem dX8_deadlineOf_12 : decode cX8_deadlineOf 12 = .ok (.getfield 256, 3) := by decide +kernel
theorem dX8_deadlineOf_15 : decode cX8_deadlineOf 15 = .ok (.iload_n 1, 1) := by decide +kernel
theorem dX8_deadlineOf_16 : decode cX8_deadlineOf 16 = .ok (.laload, 1) := by decide +kernel
theorem dX8_deadlineOf_17 : decode cX8_deadlineOf 17 = .ok (.lreturn, 1) := by decide +kernel
theorem dX8_departureOf_0 : decode cX8_departureOf 0 = .ok (.aload_n 0, 1) := by decide +kernel
theorem dX8_departureOf_1 : decode cX8_departureOf 1 = .ok (.iload_n 1, 1) := by decide +kernel
theorem dX8_departureOf_2 : decode cX8_departureOf 2 = .ok (.invokevirtual 250, 3) := by decide +kernel
theorem dX8_departureOf_5 : decode cX8_departureOf 5 = .ok (.aload_n 0, 1) := by decide +kernel
theorem dX8_departureOf_6 : decode cX8_departureOf 6 = .ok (.getfield 36, 3) := by decide +kernel
theorem dX8_departureOf_9 : decode cX8_departureOf 9 = .ok (.getfield 158, 3) := by decide +kernel
theorem dX8_departureOf_12 : decode cX8_departureOf 12 = .ok (.getfield 243, 3) := by decide +kernel
theorem dX8_departureOf_15 : decode cX8_departureOf 15 = .ok (.iload_n 1, 1) := by decide +kernel
theorem dX8_departureOf_16 : decode cX8_departureOf 16 = .ok (.laload, 1) := by decide +kernel
theorem dX8_departureOf_17 : decode cX8_departureOf 17 = .ok (.lreturn, 1) := by decide +kernel
theorem dX8_sent_0 : decode cX8_sent 0 = .ok (.iload_n 1, 1) := by decide +kernel
theorem dX8_sent_1 : decode cX8_sent 1 = .ok (.invokestatic 115, 3) := by decide +kernel
theorem dX8_sent_4 : decode cX8_sent 4 = .ok (.aload_n 0, 1) := by decide +kernel
theorem dX8_sent_5 : decode cX8_sent 5 = .ok (.getfield 36, 3) := by decide +kernel
theorem dX8_sent_8 : decode cX8_sent 8 = .ok (.getfield 121, 3) := by decide +kernel
theorem dX8_sent_11 : decode cX8_sent 11 = .ok (.getfield 259, 3) := by decide +kernel
theorem dX8_sent_14 : decode cX8_sent 14 = .ok (.iload_n 1, 1) := by decide +kernel
theorem dX8_sent_15 : decode cX8_sent 15 = .ok (.iaload, 1) := by decide +kernel
theorem dX8_sent_16 : decode cX8_sent 16 = .ok (.ireturn, 1) := by decide +kernel
theorem dX8_sentBytes_0 : decode cX8_sentBytes 0 = .ok (.iload_n 1, 1) := by decide +kernel
theorem dX8_sentBytes_1 : decode cX8_sentBytes 1 = .ok (.invokestatic 115, 3) := by decide +kernel
theorem dX8_sentBytes_4 : decode cX8_sentBytes 4 = .ok (.aload_n 0, 1) := by decide +kernel
theorem dX8_sentBytes_5 : decode cX8_sentBytes 5 = .ok (.getfield 36, 3) := by decide +kernel
theorem dX8_sentBytes_8 : decode cX8_sentBytes 8 = .ok (.getfield 121, 3) := by decide +kernel
theorem dX8_sentBytes_11 : decode cX8_sentBytes 11 = .ok (.getfield 262, 3) := by decide +kernel
theorem dX8_sentBytes_14 : decode cX8_sentBytes 14 = .ok (.iload_n 1, 1) := by decide +kernel
theorem dX8_sentBytes_15 : decode cX8_sentBytes 15 = .ok (.iaload, 1) := by decide +kernel
theorem dX8_sentBytes_16 : decode cX8_sentBytes 16 = .ok (.ireturn, 1) := by decide +kernel
theorem dX8_totalDelay_0 : decode cX8_totalDelay 0 = .ok (.iload_n 1, 1) := by decide +kernel
theorem dX8_totalDelay_1 : decode cX8_totalDelay 1 = .ok (.invokestatic 115, 3) := by decide +kernel
theorem dX8_totalDelay_4 : decode cX8_totalDelay 4 = .ok (.aload_n 0, 1) := by decide +kernel
theorem dX8_totalDelay_5 : decode cX8_totalDelay 5 = .ok (.getfield 36, 3) := by decide +kernel
theorem dX8_totalDelay_8 : decode cX8_totalDelay 8 = .ok (.getfield 121, 3) := by decide +kernel
theorem dX8_totalDelay_11 : decode cX8_totalDelay 11 = .ok (.getfield 265, 3) := by decide +kernel
theorem dX8_totalDelay_14 : decode cX8_totalDelay 14 = .ok (.iload_n 1, 1) := by decide +kernel
theorem dX8_totalDelay_15 : decode cX8_totalDelay 15 = .ok (.laload, 1) := by decide +kernel
theorem dX8_totalDelay_16 : decode cX8_totalDelay 16 = .ok (.lreturn, 1) := by decide +kernel
theorem dX8_greatestDelay_0 : decode cX8_greatestDelay 0 = .ok (.iload_n 1, 1) := by decide +kernel
theorem dX8_greatestDelay_1 : decode cX8_greatestDelay 1 = .ok (.invokestatic 115, 3) := by decide +kernel
theorem dX8_greatestDelay_4 : decode cX8_greatestDelay 4 = .ok (.aload_n 0, 1) := by decide +kernel
theorem dX8_greatestDelay_5 : decode cX8_greatestDelay 5 = .ok (.getfield 36, 3) := by decide +kernel
theorem dX8_greatestDelay_8 : decode cX8_greatestDelay 8 = .ok (.getfield 121, 3) := by decide +kernel
theorem dX8_greatestDelay_11 : decode cX8_greatestDelay 11 = .ok (.getfield 268, 3) := by decide +kernel
theorem dX8_greatestDelay_14 : decode cX8_greatestDelay 14 = .ok (.iload_n 1, 1) := by decide +kernel
theorem dX8_greatestDelay_15 : decode cX8_greatestDelay 15 = .ok (.laload, 1) := by decide +kernel
theorem dX8_greatestDelay_16 : decode cX8_greatestDelay 16 = .ok (.lreturn, 1) := by decide +kernel
theorem dX8_missed_0 : decode cX8_missed 0 = .ok (.iload_n 1, 1) := by decide +kernel
theorem dX8_missed_1 : decode cX8_missed 1 = .ok (.invokestatic 115, 3) := by decide +kernel
theorem dX8_missed_4 : decode cX8_missed 4 = .ok (.aload_n 0, 1) := by decide +kernel
theorem dX8_missed_5 : decode cX8_missed 5 = .ok (.getfield 36, 3) := by decide +kernel
theorem dX8_missed_8 : decode cX8_missed 8 = .ok (.getfield 121, 3) := by decide +kernel
theorem dX8_missed_11 : decode cX8_missed 11 = .ok (.getfield 271, 3) := by decide +kernel
theorem dX8_missed_14 : decode cX8_missed 14 = .ok (.iload_n 1, 1) := by decide +kernel
theorem dX8_missed_15 : decode cX8_missed 15 = .ok (.iaload, 1) := by decide +kernel
theorem dX8_missed_16 : decode cX8_missed 16 = .ok (.ireturn, 1) := by decide +kernel
theorem dX8_share_0 : decode cX8_share 0 = .ok (.iload_n 1, 1) := by decide +kernel
theorem dX8_share_1 : decode cX8_share 1 = .ok (.invokestatic 115, 3) := by decide +kernel
theorem dX8_share_4 : decode cX8_share 4 = .ok (.aload_n 0, 1) := by decide +kernel
theorem dX8_share_5 : decode cX8_share 5 = .ok (.getfield 36, 3) := by decide +kernel
theorem dX8_share_8 : decode cX8_share 8 = .ok (.getfield 121, 3) := by decide +kernel
theorem dX8_share_11 : decode cX8_share 11 = .ok (.invokevirtual 274, 3) := by decide +kernel
theorem dX8_share_14 : decode cX8_share 14 = .ok (.lstore_n 2, 1) := by decide +kernel
theorem dX8_share_15 : decode cX8_share 15 = .ok (.lload_n 2, 1) := by decide +kernel
theorem dX8_share_16 : decode cX8_share 16 = .ok (.lconst 0, 1) := by decide +kernel
theorem dX8_share_17 : decode cX8_share 17 = .ok (.lcmp, 1) := by decide +kernel
theorem dX8_share_18 : decode cX8_share 18 = .ok (.ifCond .ne 5, 3) := by decide +kernel
theorem dX8_share_21 : decode cX8_share 21 = .ok (.iconst 0, 1) := by decide +kernel
theorem dX8_share_22 : decode cX8_share 22 = .ok (.ireturn, 1) := by decide +kernel
theorem dX8_share_23 : decode cX8_share 23 = .ok (.ldc2_w 277, 3) := by decide +kernel
theorem dX8_share_26 : decode cX8_share 26 = .ok (.aload_n 0, 1) := by decide +kernel
theorem dX8_share_27 : decode cX8_share 27 = .ok (.getfield 36, 3) := by decide +kernel
theorem dX8_share_30 : decode cX8_share 30 = .ok (.getfield 121, 3) := by decide +kernel
theorem dX8_share_33 : decode cX8_share 33 = .ok (.getfield 262, 3) := by decide +kernel
theorem dX8_share_36 : decode cX8_share 36 = .ok (.iload_n 1, 1) := by decide +kernel
theorem dX8_share_37 : decode cX8_share 37 = .ok (.iaload, 1) := by decide +kernel
theorem dX8_share_38 : decode cX8_share 38 = .ok (.i2l, 1) := by decide +kernel
theorem dX8_share_39 : decode cX8_share 39 = .ok (.lmul, 1) := by decide +kernel
theorem dX8_share_40 : decode cX8_share 40 = .ok (.lload_n 2, 1) := by decide +kernel
theorem dX8_share_41 : decode cX8_share 41 = .ok (.ldiv, 1) := by decide +kernel
theorem dX8_share_42 : decode cX8_share 42 = .ok (.l2i, 1) := by decide +kernel
theorem dX8_share_43 : decode cX8_share 43 = .ok (.ireturn, 1) := by decide +kernel
theorem dX8_checkpoint_0 : decode cX8_checkpoint 0 = .ok (.aload_n 0, 1) := by decide +kernel
theorem dX8_checkpoint_1 : decode cX8_checkpoint 1 = .ok (.getfield 279, 3) := by decide +kernel
theorem dX8_checkpoint_4 : decode cX8_checkpoint 4 = .ok (.ifCond .lt 15, 3) := by decide +kernel
theorem dX8_checkpoint_7 : decode cX8_checkpoint 7 = .ok (.aload_n 0, 1) := by decide +kernel
theorem dX8_checkpoint_8 : decode cX8_checkpoint 8 = .ok (.getfield 279, 3) := by decide +kernel
theorem dX8_checkpoint_11 : decode cX8_checkpoint 11 = .ok (.aload_n 0, 1) := by decide +kernel
theorem dX8_checkpoint_12 : decode cX8_checkpoint 12 = .ok (.getfield 26, 3) := by decide +kernel
theorem dX8_checkpoint_15 : decode cX8_checkpoint 15 = .ok (.arraylength, 1) := by decide +kernel
theorem dX8_checkpoint_16 : decode cX8_checkpoint 16 = .ok (.if_icmp .lt 14, 3) := by decide +kernel
theorem dX8_checkpoint_19 : decode cX8_checkpoint 19 = .ok (.new 61, 3) := by decide +kernel
theorem dX8_checkpoint_22 : decode cX8_checkpoint 22 = .ok (.dup, 1) := by decide +kernel
theorem dX8_checkpoint_23 : decode cX8_checkpoint 23 = .ok (.ldc_w 282, 3) := by decide +kernel
theorem dX8_checkpoint_26 : decode cX8_checkpoint 26 = .ok (.invokespecial 65, 3) := by decide +kernel
theorem dX8_checkpoint_29 : decode cX8_checkpoint 29 = .ok (.athrow, 1) := by decide +kernel
theorem dX8_checkpoint_30 : decode cX8_checkpoint 30 = .ok (.aload_n 0, 1) := by decide +kernel
theorem dX8_checkpoint_31 : decode cX8_checkpoint 31 = .ok (.getfield 26, 3) := by decide +kernel
theorem dX8_checkpoint_34 : decode cX8_checkpoint 34 = .ok (.aload_n 0, 1) := by decide +kernel
theorem dX8_checkpoint_35 : decode cX8_checkpoint 35 = .ok (.getfield 279, 3) := by decide +kernel
theorem dX8_checkpoint_38 : decode cX8_checkpoint 38 = .ok (.aaload, 1) := by decide +kernel
theorem dX8_checkpoint_39 : decode cX8_checkpoint 39 = .ok (.aload_n 0, 1) := by decide +kernel
theorem dX8_checkpoint_40 : decode cX8_checkpoint 40 = .ok (.getfield 36, 3) := by decide +kernel
theorem dX8_checkpoint_43 : decode cX8_checkpoint 43 = .ok (.invokevirtual 236, 3) := by decide +kernel
theorem dX8_checkpoint_46 : decode cX8_checkpoint 46 = .ok (.aload_n 0, 1) := by decide +kernel
theorem dX8_checkpoint_47 : decode cX8_checkpoint 47 = .ok (.dup, 1) := by decide +kernel
theorem dX8_checkpoint_48 : decode cX8_checkpoint 48 = .ok (.getfield 279, 3) := by decide +kernel
theorem dX8_checkpoint_51 : decode cX8_checkpoint 51 = .ok (.iconst 1, 1) := by decide +kernel
theorem dX8_checkpoint_52 : decode cX8_checkpoint 52 = .ok (.iadd, 1) := by decide +kernel
theorem dX8_checkpoint_53 : decode cX8_checkpoint 53 = .ok (.putfield 279, 3) := by decide +kernel
theorem dX8_checkpoint_56 : decode cX8_checkpoint 56 = .ok (.aload_n 0, 1) := by decide +kernel
theorem dX8_checkpoint_57 : decode cX8_checkpoint 57 = .ok (.getfield 279, 3) := by decide +kernel
theorem dX8_checkpoint_60 : decode cX8_checkpoint 60 = .ok (.ireturn, 1) := by decide +kernel
theorem dX8_rollback_0 : decode cX8_rollback 0 = .ok (.aload_n 0, 1) := by decide +kernel
theorem dX8_rollback_1 : decode cX8_rollback 1 = .ok (.invokevirtual 284, 3) := by decide +kernel
theorem dX8_rollback_4 : decode cX8_rollback 4 = .ok (.aload_n 0, 1) := by decide +kernel
theorem dX8_rollback_5 : decode cX8_rollback 5 = .ok (.dup, 1) := by decide +kernel
theorem dX8_rollback_6 : decode cX8_rollback 6 = .ok (.getfield 279, 3) := by decide +kernel
theorem dX8_rollback_9 : decode cX8_rollback 9 = .ok (.iconst 1, 1) := by decide +kernel
theorem dX8_rollback_10 : decode cX8_rollback 10 = .ok (.isub, 1) := by decide +kernel
theorem dX8_rollback_11 : decode cX8_rollback 11 = .ok (.putfield 279, 3) := by decide +kernel
theorem dX8_rollback_14 : decode cX8_rollback 14 = .ok (.aload_n 0, 1) := by decide +kernel
theorem dX8_rollback_15 : decode cX8_rollback 15 = .ok (.getfield 36, 3) := by decide +kernel
theorem dX8_rollback_18 : decode cX8_rollback 18 = .ok (.aload_n 0, 1) := by decide +kernel
theorem dX8_rollback_19 : decode cX8_rollback 19 = .ok (.getfield 26, 3) := by decide +kernel
theorem dX8_rollback_22 : decode cX8_rollback 22 = .ok (.aload_n 0, 1) := by decide +kernel
theorem dX8_rollback_23 : decode cX8_rollback 23 = .ok (.getfield 279, 3) := by decide +kernel
theorem dX8_rollback_26 : decode cX8_rollback 26 = .ok (.aaload, 1) := by decide +kernel
theorem dX8_rollback_27 : decode cX8_rollback 27 = .ok (.invokevirtual 236, 3) := by decide +kernel
theorem dX8_rollback_30 : decode cX8_rollback 30 = .ok (.aload_n 0, 1) := by decide +kernel
theorem dX8_rollback_31 : decode cX8_rollback 31 = .ok (.getfield 279, 3) := by decide +kernel
theorem dX8_rollback_34 : decode cX8_rollback 34 = .ok (.ireturn, 1) := by decide +kernel
theorem dX8_commit_0 : decode cX8_commit 0 = .ok (.aload_n 0, 1) := by decide +kernel
theorem dX8_commit_1 : decode cX8_commit 1 = .ok (.invokevirtual 284, 3) := by decide +kernel
theorem dX8_commit_4 : decode cX8_commit 4 = .ok (.aload_n 0, 1) := by decide +kernel
theorem dX8_commit_5 : decode cX8_commit 5 = .ok (.dup, 1) := by decide +kernel
theorem dX8_commit_6 : decode cX8_commit 6 = .ok (.getfield 279, 3) := by decide +kernel
theorem dX8_commit_9 : decode cX8_commit 9 = .ok (.iconst 1, 1) := by decide +kernel
theorem dX8_commit_10 : decode cX8_commit 10 = .ok (.isub, 1) := by decide +kernel
theorem dX8_commit_11 : decode cX8_commit 11 = .ok (.putfield 279, 3) := by decide +kernel
theorem dX8_commit_14 : decode cX8_commit 14 = .ok (.aload_n 0, 1) := by decide +kernel
theorem dX8_commit_15 : decode cX8_commit 15 = .ok (.getfield 279, 3) := by decide +kernel
theorem dX8_commit_18 : decode cX8_commit 18 = .ok (.ireturn, 1) := by decide +kernel
theorem dX8_fingerprint_0 : decode cX8_fingerprint 0 = .ok (.ldc2_w 287, 3) := by decide +kernel
theorem dX8_fingerprint_3 : decode cX8_fingerprint 3 = .ok (.aload_n 0, 1) := by decide +kernel
theorem dX8_fingerprint_4 : decode cX8_fingerprint 4 = .ok (.getfield 36, 3) := by decide +kernel
theorem dX8_fingerprint_7 : decode cX8_fingerprint 7 = .ok (.getfield 176, 3) := by decide +kernel
theorem dX8_fingerprint_10 : decode cX8_fingerprint 10 = .ok (.invokestatic 289, 3) := by decide +kernel
theorem dX8_fingerprint_13 : decode cX8_fingerprint 13 = .ok (.aload_n 0, 1) := by decide +kernel
theorem dX8_fingerprint_14 : decode cX8_fingerprint 14 = .ok (.getfield 36, 3) := by decide +kernel
theorem dX8_fingerprint_17 : decode cX8_fingerprint 17 = .ok (.getfield 193, 3) := by decide +kernel
theorem dX8_fingerprint_20 : decode cX8_fingerprint 20 = .ok (.getfield 203, 3) := by decide +kernel
theorem dX8_fingerprint_23 : decode cX8_fingerprint 23 = .ok (.i2l, 1) := by decide +kernel
theorem dX8_fingerprint_24 : decode cX8_fingerprint 24 = .ok (.invokestatic 289, 3) := by decide +kernel
theorem dX8_fingerprint_27 : decode cX8_fingerprint 27 = .ok (.lstore_n 1, 1) := by decide +kernel
theorem dX8_fingerprint_28 : decode cX8_fingerprint 28 = .ok (.iconst 0, 1) := by decide +kernel
theorem dX8_fingerprint_29 : decode cX8_fingerprint 29 = .ok (.istore_n 3, 1) := by decide +kernel
theorem dX8_fingerprint_30 : decode cX8_fingerprint 30 = .ok (.iload_n 3, 1) := by decide +kernel
theorem dX8_fingerprint_31 : decode cX8_fingerprint 31 = .ok (.aload_n 0, 1) := by decide +kernel
theorem dX8_fingerprint_32 : decode cX8_fingerprint 32 = .ok (.getfield 36, 3) := by decide +kernel
theorem dX8_fingerprint_35 : decode cX8_fingerprint 35 = .ok (.getfield 90, 3) := by decide +kernel
theorem dX8_fingerprint_38 : decode cX8_fingerprint 38 = .ok (.getfield 91, 3) := by decide +kernel
theorem dX8_fingerprint_41 : decode cX8_fingerprint 41 = .ok (.if_icmp .ge 102, 3) := by decide +kernel
theorem dX8_fingerprint_44 : decode cX8_fingerprint 44 = .ok (.iload_n 3, 1) := by decide +kernel
theorem dX8_fingerprint_45 : decode cX8_fingerprint 45 = .ok (.aload_n 0, 1) := by decide +kernel
theorem dX8_fingerprint_46 : decode cX8_fingerprint 46 = .ok (.getfield 36, 3) := by decide +kernel
theorem dX8_fingerprint_49 : decode cX8_fingerprint 49 = .ok (.getfield 130, 3) := by decide +kernel
theorem dX8_fingerprint_52 : decode cX8_fingerprint 52 = .ok (.arraylength, 1) := by decide +kernel
theorem dX8_fingerprint_53 : decode cX8_fingerprint 53 = .ok (.if_icmp .ge 90, 3) := by decide +kernel
theorem dX8_fingerprint_56 : decode cX8_fingerprint 56 = .ok (.aload_n 0, 1) := by decide +kernel
theorem dX8_fingerprint_57 : decode cX8_fingerprint 57 = .ok (.getfield 36, 3) := by decide +kernel
theorem dX8_fingerprint_60 : decode cX8_fingerprint 60 = .ok (.getfield 130, 3) := by decide +kernel
theorem dX8_fingerprint_63 : decode cX8_fingerprint 63 = .ok (.iload_n 3, 1) := by decide +kernel
theorem dX8_fingerprint_64 : decode cX8_fingerprint 64 = .ok (.aaload, 1) := by decide +kernel
theorem dX8_fingerprint_65 : decode cX8_fingerprint 65 = .ok (.astore 4, 2) := by decide +kernel
theorem dX8_fingerprint_67 : decode cX8_fingerprint 67 = .ok (.lload_n 1, 1) := by decide +kernel
theorem dX8_fingerprint_68 : decode cX8_fingerprint 68 = .ok (.aload 4, 2) := by decide +kernel
theorem dX8_fingerprint_70 : decode cX8_fingerprint 70 = .ok (.getfield 218, 3) := by decide +kernel
theorem dX8_fingerprint_73 : decode cX8_fingerprint 73 = .ok (.invokestatic 289, 3) := by decide +kernel
theorem dX8_fingerprint_76 : decode cX8_fingerprint 76 = .ok (.aload 4, 2) := by decide +kernel
theorem dX8_fingerprint_78 : decode cX8_fingerprint 78 = .ok (.getfield 206, 3) := by decide +kernel
theorem dX8_fingerprint_81 : decode cX8_fingerprint 81 = .ok (.i2l, 1) := by decide +kernel
theorem dX8_fingerprint_82 : decode cX8_fingerprint 82 = .ok (.invokestatic 289, 3) := by decide +kernel
theorem dX8_fingerprint_85 : decode cX8_fingerprint 85 = .ok (.lstore_n 1, 1) := by decide +kernel
theorem dX8_fingerprint_86 : decode cX8_fingerprint 86 = .ok (.iconst 0, 1) := by decide +kernel
theorem dX8_fingerprint_87 : decode cX8_fingerprint 87 = .ok (.istore 5, 2) := by decide +kernel
theorem dX8_fingerprint_89 : decode cX8_fingerprint 89 = .ok (.iload 5, 2) := by decide +kernel
theorem dX8_fingerprint_91 : decode cX8_fingerprint 91 = .ok (.aload 4, 2) := by decide +kernel
theorem dX8_fingerprint_93 : decode cX8_fingerprint 93 = .ok (.getfield 206, 3) := by decide +kernel
theorem dX8_fingerprint_96 : decode cX8_fingerprint 96 = .ok (.if_icmp .ge 41, 3) := by decide +kernel
theorem dX8_fingerprint_99 : decode cX8_fingerprint 99 = .ok (.iload 5, 2) := by decide +kernel
theorem dX8_fingerprint_101 : decode cX8_fingerprint 101 = .ok (.bipush 64, 2) := by decide +kernel
theorem dX8_fingerprint_103 : decode cX8_fingerprint 103 = .ok (.if_icmp .ge 34, 3) := by decide +kernel
theorem dX8_fingerprint_106 : decode cX8_fingerprint 106 = .ok (.lload_n 1, 1) := by decide +kernel
theorem dX8_fingerprint_107 : decode cX8_fingerprint 107 = .ok (.aload 4, 2) := by decide +kernel
theorem dX8_fingerprint_109 : decode cX8_fingerprint 109 = .ok (.getfield 211, 3) := by decide +kernel
theorem dX8_fingerprint_112 : decode cX8_fingerprint 112 = .ok (.iload 5, 2) := by decide +kernel
theorem dX8_fingerprint_114 : decode cX8_fingerprint 114 = .ok (.iaload, 1) := by decide +kernel
theorem dX8_fingerprint_115 : decode cX8_fingerprint 115 = .ok (.i2l, 1) := by decide +kernel
theorem dX8_fingerprint_116 : decode cX8_fingerprint 116 = .ok (.invokestatic 289, 3) := by decide +kernel
theorem dX8_fingerprint_119 : decode cX8_fingerprint 119 = .ok (.aload 4, 2) := by decide +kernel
theorem dX8_fingerprint_121 : decode cX8_fingerprint 121 = .ok (.getfield 214, 3) := by decide +kernel
theorem dX8_fingerprint_124 : decode cX8_fingerprint 124 = .ok (.iload 5, 2) := by decide +kernel
theorem dX8_fingerprint_126 : decode cX8_fingerprint 126 = .ok (.laload, 1) := by decide +kernel
theorem dX8_fingerprint_127 : decode cX8_fingerprint 127 = .ok (.invokestatic 289, 3) := by decide +kernel
theorem dX8_fingerprint_130 : decode cX8_fingerprint 130 = .ok (.lstore_n 1, 1) := by decide +kernel
theorem dX8_fingerprint_131 : decode cX8_fingerprint 131 = .ok (.iinc 5 1, 3) := by decide +kernel
theorem dX8_fingerprint_134 : decode cX8_fingerprint 134 = .ok (.goto (-45), 3) := by decide +kernel
theorem dX8_fingerprint_137 : decode cX8_fingerprint 137 = .ok (.iinc 3 1, 3) := by decide +kernel
theorem dX8_fingerprint_140 : decode cX8_fingerprint 140 = .ok (.goto (-110), 3) := by decide +kernel
theorem dX8_fingerprint_143 : decode cX8_fingerprint 143 = .ok (.iconst 0, 1) := by decide +kernel
theorem dX8_fingerprint_144 : decode cX8_fingerprint 144 = .ok (.istore_n 3, 1) := by decide +kernel
theorem dX8_fingerprint_145 : decode cX8_fingerprint 145 = .ok (.iload_n 3, 1) := by decide +kernel
theorem dX8_fingerprint_146 : decode cX8_fingerprint 146 = .ok (.bipush 16, 2) := by decide +kernel
theorem dX8_fingerprint_148 : decode cX8_fingerprint 148 = .ok (.if_icmp .ge 76, 3) := by decide +kernel
theorem dX8_fingerprint_151 : decode cX8_fingerprint 151 = .ok (.lload_n 1, 1) := by decide +kernel
theorem dX8_fingerprint_152 : decode cX8_fingerprint 152 = .ok (.aload_n 0, 1) := by decide +kernel
theorem dX8_fingerprint_153 : decode cX8_fingerprint 153 = .ok (.getfield 36, 3) := by decide +kernel
theorem dX8_fingerprint_156 : decode cX8_fingerprint 156 = .ok (.getfield 121, 3) := by decide +kernel
theorem dX8_fingerprint_159 : decode cX8_fingerprint 159 = .ok (.getfield 259, 3) := by decide +kernel
theorem dX8_fingerprint_162 : decode cX8_fingerprint 162 = .ok (.iload_n 3, 1) := by decide +kernel
theorem dX8_fingerprint_163 : decode cX8_fingerprint 163 = .ok (.iaload, 1) := by decide +kernel
theorem dX8_fingerprint_164 : decode cX8_fingerprint 164 = .ok (.i2l, 1) := by decide +kernel
theorem dX8_fingerprint_165 : decode cX8_fingerprint 165 = .ok (.invokestatic 289, 3) := by decide +kernel
theorem dX8_fingerprint_168 : decode cX8_fingerprint 168 = .ok (.aload_n 0, 1) := by decide +kernel
theorem dX8_fingerprint_169 : decode cX8_fingerprint 169 = .ok (.getfield 36, 3) := by decide +kernel
theorem dX8_fingerprint_172 : decode cX8_fingerprint 172 = .ok (.getfield 121, 3) := by decide +kernel
theorem dX8_fingerprint_175 : decode cX8_fingerprint 175 = .ok (.getfield 262, 3) := by decide +kernel
theorem dX8_fingerprint_178 : decode cX8_fingerprint 178 = .ok (.iload_n 3, 1) := by decide +kernel
theorem dX8_fingerprint_179 : decode cX8_fingerprint 179 = .ok (.iaload, 1) := by decide +kernel
theorem dX8_fingerprint_180 : decode cX8_fingerprint 180 = .ok (.i2l, 1) := by decide +kernel
theorem dX8_fingerprint_181 : decode cX8_fingerprint 181 = .ok (.invokestatic 289, 3) := by decide +kernel
theorem dX8_fingerprint_184 : decode cX8_fingerprint 184 = .ok (.lstore_n 1, 1) := by decide +kernel
theorem dX8_fingerprint_185 : decode cX8_fingerprint 185 = .ok (.lload_n 1, 1) := by decide +kernel
theorem dX8_fingerprint_186 : decode cX8_fingerprint 186 = .ok (.aload_n 0, 1) := by decide +kernel
theorem dX8_fingerprint_187 : decode cX8_fingerprint 187 = .ok (.getfield 36, 3) := by decide +kernel
theorem dX8_fingerprint_190 : decode cX8_fingerprint 190 = .ok (.getfield 121, 3) := by decide +kernel
theorem dX8_fingerprint_193 : decode cX8_fingerprint 193 = .ok (.getfield 265, 3) := by decide +kernel
theorem dX8_fingerprint_196 : decode cX8_fingerprint 196 = .ok (.iload_n 3, 1) := by decide +kernel
theorem dX8_fingerprint_197 : decode cX8_fingerprint 197 = .ok (.laload, 1) := by decide +kernel
theorem dX8_fingerprint_198 : decode cX8_fingerprint 198 = .ok (.invokestatic 289, 3) := by decide +kernel
theorem dX8_fingerprint_201 : decode cX8_fingerprint 201 = .ok (.aload_n 0, 1) := by decide +kernel
theorem dX8_fingerprint_202 : decode cX8_fingerprint 202 = .ok (.getfield 36, 3) := by decide +kernel
theorem dX8_fingerprint_205 : decode cX8_fingerprint 205 = .ok (.getfield 121, 3) := by decide +kernel
theorem dX8_fingerprint_208 : decode cX8_fingerprint 208 = .ok (.getfield 271, 3) := by decide +kernel
theorem dX8_fingerprint_211 : decode cX8_fingerprint 211 = .ok (.iload_n 3, 1) := by decide +kernel
theorem dX8_fingerprint_212 : decode cX8_fingerprint 212 = .ok (.iaload, 1) := by decide +kernel
theorem dX8_fingerprint_213 : decode cX8_fingerprint 213 = .ok (.i2l, 1) := by decide +kernel
theorem dX8_fingerprint_214 : decode cX8_fingerprint 214 = .ok (.invokestatic 289, 3) := by decide +kernel
theorem dX8_fingerprint_217 : decode cX8_fingerprint 217 = .ok (.lstore_n 1, 1) := by decide +kernel
theorem dX8_fingerprint_218 : decode cX8_fingerprint 218 = .ok (.iinc 3 1, 3) := by decide +kernel
theorem dX8_fingerprint_221 : decode cX8_fingerprint 221 = .ok (.goto (-76), 3) := by decide +kernel
theorem dX8_fingerprint_224 : decode cX8_fingerprint 224 = .ok (.lload_n 1, 1) := by decide +kernel
theorem dX8_fingerprint_225 : decode cX8_fingerprint 225 = .ok (.lreturn, 1) := by decide +kernel
theorem dX8_mix_0 : decode cX8_mix 0 = .ok (.ldc2_w 293, 3) := by decide +kernel
theorem dX8_mix_3 : decode cX8_mix 3 = .ok (.lload_n 0, 1) := by decide +kernel
theorem dX8_mix_4 : decode cX8_mix 4 = .ok (.lmul, 1) := by decide +kernel
theorem dX8_mix_5 : decode cX8_mix 5 = .ok (.lload_n 2, 1) := by decide +kernel
theorem dX8_mix_6 : decode cX8_mix 6 = .ok (.ladd, 1) := by decide +kernel
theorem dX8_mix_7 : decode cX8_mix 7 = .ok (.lreturn, 1) := by decide +kernel
theorem dX8_plant_0 : decode cX8_plant 0 = .ok (.aload_n 0, 1) := by decide +kernel
theorem dX8_plant_1 : decode cX8_plant 1 = .ok (.getfield 20, 3) := by decide +kernel
theorem dX8_plant_4 : decode cX8_plant 4 = .ok (.iload_n 1, 1) := by decide +kernel
theorem dX8_plant_5 : decode cX8_plant 5 = .ok (.invokestatic 295, 3) := by decide +kernel
theorem dX8_plant_8 : decode cX8_plant 8 = .ok (.invokevirtual 299, 3) := by decide +kernel
theorem dX8_plant_11 : decode cX8_plant 11 = .ok (.aload_n 0, 1) := by decide +kernel
theorem dX8_plant_12 : decode cX8_plant 12 = .ok (.getfield 20, 3) := by decide +kernel
theorem dX8_plant_15 : decode cX8_plant 15 = .ok (.invokevirtual 70, 3) := by decide +kernel
theorem dX8_plant_18 : decode cX8_plant 18 = .ok (.ifCond .eq 17, 3) := by decide +kernel
theorem dX8_plant_21 : decode cX8_plant 21 = .ok (.aload_n 0, 1) := by decide +kernel
theorem dX8_plant_22 : decode cX8_plant 22 = .ok (.getfield 36, 3) := by decide +kernel
theorem dX8_plant_25 : decode cX8_plant 25 = .ok (.aload_n 0, 1) := by decide +kernel
theorem dX8_plant_26 : decode cX8_plant 26 = .ok (.getfield 20, 3) := by decide +kernel
theorem dX8_plant_29 : decode cX8_plant 29 = .ok (.getfield 82, 3) := by decide +kernel
theorem dX8_plant_32 : decode cX8_plant 32 = .ok (.invokevirtual 86, 3) := by decide +kernel
theorem dX8_plant_35 : decode cX8_plant 35 = .ok (.return_, 1) := by decide +kernel
theorem dX8_templateText_0 : decode cX8_templateText 0 = .ok (.iload_n 0, 1) := by decide +kernel
theorem dX8_templateText_1 : decode cX8_templateText 1 = .ok (.tableswitch 55 1 5 #[35, 39, 43, 47, 51], 35) := by decide +kernel
theorem dX8_templateText_36 : decode cX8_templateText 36 = .ok (.ldc_w 302, 3) := by decide +kernel
theorem dX8_templateText_39 : decode cX8_templateText 39 = .ok (.areturn, 1) := by decide +kernel
theorem dX8_templateText_40 : decode cX8_templateText 40 = .ok (.ldc_w 304, 3) := by decide +kernel
theorem dX8_templateText_43 : decode cX8_templateText 43 = .ok (.areturn, 1) := by decide +kernel
theorem dX8_templateText_44 : decode cX8_templateText 44 = .ok (.ldc_w 306, 3) := by decide +kernel
theorem dX8_templateText_47 : decode cX8_templateText 47 = .ok (.areturn, 1) := by decide +kernel
theorem dX8_templateText_48 : decode cX8_templateText 48 = .ok (.ldc_w 308, 3) := by decide +kernel
theorem dX8_templateText_51 : decode cX8_templateText 51 = .ok (.areturn, 1) := by decide +kernel
theorem dX8_templateText_52 : decode cX8_templateText 52 = .ok (.ldc_w 310, 3) := by decide +kernel
theorem dX8_templateText_55 : decode cX8_templateText 55 = .ok (.areturn, 1) := by decide +kernel
theorem dX8_templateText_56 : decode cX8_templateText 56 = .ok (.ldc_w 312, 3) := by decide +kernel
theorem dX8_templateText_59 : decode cX8_templateText 59 = .ok (.areturn, 1) := by decide +kernel
theorem dX8_needNode_0 : decode cX8_needNode 0 = .ok (.aload_n 0, 1) := by decide +kernel
theorem dX8_needNode_1 : decode cX8_needNode 1 = .ok (.getfield 36, 3) := by decide +kernel
theorem dX8_needNode_4 : decode cX8_needNode 4 = .ok (.getfield 90, 3) := by decide +kernel
theorem dX8_needNode_7 : decode cX8_needNode 7 = .ok (.iload_n 1, 1) := by decide +kernel
theorem dX8_needNode_8 : decode cX8_needNode 8 = .ok (.invokevirtual 314, 3) := by decide +kernel
theorem dX8_needNode_11 : decode cX8_needNode 11 = .ok (.ifCond .ne 14, 3) := by decide +kernel
theorem dX8_needNode_14 : decode cX8_needNode 14 = .ok (.new 98, 3) := by decide +kernel
theorem dX8_needNode_17 : decode cX8_needNode 17 = .ok (.dup, 1) := by decide +kernel
theorem dX8_needNode_18 : decode cX8_needNode 18 = .ok (.ldc_w 317, 3) := by decide +kernel
theorem dX8_needNode_21 : decode cX8_needNode 21 = .ok (.invokespecial 102, 3) := by decide +kernel
theorem dX8_needNode_24 : decode cX8_needNode 24 = .ok (.athrow, 1) := by decide +kernel
theorem dX8_needNode_25 : decode cX8_needNode 25 = .ok (.return_, 1) := by decide +kernel
theorem dX8_needElement_0 : decode cX8_needElement 0 = .ok (.aload_n 0, 1) := by decide +kernel
theorem dX8_needElement_1 : decode cX8_needElement 1 = .ok (.iload_n 1, 1) := by decide +kernel
theorem dX8_needElement_2 : decode cX8_needElement 2 = .ok (.invokevirtual 103, 3) := by decide +kernel
theorem dX8_needElement_5 : decode cX8_needElement 5 = .ok (.iload_n 2, 1) := by decide +kernel
theorem dX8_needElement_6 : decode cX8_needElement 6 = .ok (.ifCond .lt 25, 3) := by decide +kernel
theorem dX8_needElement_9 : decode cX8_needElement 9 = .ok (.iload_n 2, 1) := by decide +kernel
theorem dX8_needElement_10 : decode cX8_needElement 10 = .ok (.aload_n 0, 1) := by decide +kernel
theorem dX8_needElement_11 : decode cX8_needElement 11 = .ok (.getfield 36, 3) := by decide +kernel
theorem dX8_needElement_14 : decode cX8_needElement 14 = .ok (.getfield 130, 3) := by decide +kernel
theorem dX8_needElement_17 : decode cX8_needElement 17 = .ok (.iload_n 1, 1) := by decide +kernel
theorem dX8_needElement_18 : decode cX8_needElement 18 = .ok (.aaload, 1) := by decide +kernel
theorem dX8_needElement_19 : decode cX8_needElement 19 = .ok (.getfield 206, 3) := by decide +kernel
theorem dX8_needElement_22 : decode cX8_needElement 22 = .ok (.if_icmp .ge 9, 3) := by decide +kernel
theorem dX8_needElement_25 : decode cX8_needElement 25 = .ok (.iload_n 2, 1) := by decide +kernel
theorem dX8_needElement_26 : decode cX8_needElement 26 = .ok (.bipush 64, 2) := by decide +kernel
theorem dX8_needElement_28 : decode cX8_needElement 28 = .ok (.if_icmp .lt 14, 3) := by decide +kernel
theorem dX8_needElement_31 : decode cX8_needElement 31 = .ok (.new 98, 3) := by decide +kernel
theorem dX8_needElement_34 : decode cX8_needElement 34 = .ok (.dup, 1) := by decide +kernel
theorem dX8_needElement_35 : decode cX8_needElement 35 = .ok (.ldc_w 319, 3) := by decide +kernel
theorem dX8_needElement_38 : decode cX8_needElement 38 = .ok (.invokespecial 102, 3) := by decide +kernel
theorem dX8_needElement_41 : decode cX8_needElement 41 = .ok (.athrow, 1) := by decide +kernel
theorem dX8_needElement_42 : decode cX8_needElement 42 = .ok (.return_, 1) := by decide +kernel
theorem dX8_needFlow_0 : decode cX8_needFlow 0 = .ok (.iload_n 0, 1) := by decide +kernel
theorem dX8_needFlow_1 : decode cX8_needFlow 1 = .ok (.ifCond .lt 9, 3) := by decide +kernel
theorem dX8_needFlow_4 : decode cX8_needFlow 4 = .ok (.iload_n 0, 1) := by decide +kernel
theorem dX8_needFlow_5 : decode cX8_needFlow 5 = .ok (.bipush 16, 2) := by decide +kernel
theorem dX8_needFlow_7 : decode cX8_needFlow 7 = .ok (.if_icmp .lt 14, 3) := by decide +kernel
theorem dX8_needFlow_10 : decode cX8_needFlow 10 = .ok (.new 98, 3) := by decide +kernel
theorem dX8_needFlow_13 : decode cX8_needFlow 13 = .ok (.dup, 1) := by decide +kernel
theorem dX8_needFlow_14 : decode cX8_needFlow 14 = .ok (.ldc_w 321, 3) := by decide +kernel
theorem dX8_needFlow_17 : decode cX8_needFlow 17 = .ok (.invokespecial 102, 3) := by decide +kernel
theorem dX8_needFlow_20 : decode cX8_needFlow 20 = .ok (.athrow, 1) := by decide +kernel
theorem dX8_needFlow_21 : decode cX8_needFlow 21 = .ok (.return_, 1) := by decide +kernel
theorem dX8_needPacket_0 : decode cX8_needPacket 0 = .ok (.aload_n 0, 1) := by decide +kernel
theorem dX8_needPacket_1 : decode cX8_needPacket 1 = .ok (.getfield 36, 3) := by decide +kernel
theorem dX8_needPacket_4 : decode cX8_needPacket 4 = .ok (.getfield 158, 3) := by decide +kernel
theorem dX8_needPacket_7 : decode cX8_needPacket 7 = .ok (.iload_n 1, 1) := by decide +kernel
theorem dX8_needPacket_8 : decode cX8_needPacket 8 = .ok (.invokevirtual 240, 3) := by decide +kernel
theorem dX8_needPacket_11 : decode cX8_needPacket 11 = .ok (.ifCond .ne 14, 3) := by decide +kernel
theorem dX8_needPacket_14 : decode cX8_needPacket 14 = .ok (.new 98, 3) := by decide +kernel
theorem dX8_needPacket_17 : decode cX8_needPacket 17 = .ok (.dup, 1) := by decide +kernel
theorem dX8_needPacket_18 : decode cX8_needPacket 18 = .ok (.ldc_w 323, 3) := by decide +kernel
theorem dX8_needPacket_21 : decode cX8_needPacket 21 = .ok (.invokespecial 102, 3) := by decide +kernel
theorem dX8_needPacket_24 : decode cX8_needPacket 24 = .ok (.athrow, 1) := by decide +kernel
theorem dX8_needPacket_25 : decode cX8_needPacket 25 = .ok (.return_, 1) := by decide +kernel
theorem dX8_needWeight_0 : decode cX8_needWeight 0 = .ok (.iload_n 0, 1) := by decide +kernel
theorem dX8_needWeight_1 : decode cX8_needWeight 1 = .ok (.iconst 1, 1) := by decide +kernel
theorem dX8_needWeight_2 : decode cX8_needWeight 2 = .ok (.if_icmp .lt 9, 3) := by decide +kernel
theorem dX8_needWeight_5 : decode cX8_needWeight 5 = .ok (.iload_n 0, 1) := by decide +kernel
theorem dX8_needWeight_6 : decode cX8_needWeight 6 = .ok (.bipush 100, 2) := by decide +kernel
theorem dX8_needWeight_8 : decode cX8_needWeight 8 = .ok (.if_icmp .le 14, 3) := by decide +kernel
theorem dX8_needWeight_11 : decode cX8_needWeight 11 = .ok (.new 51, 3) := by decide +kernel
theorem dX8_needWeight_14 : decode cX8_needWeight 14 = .ok (.dup, 1) := by decide +kernel
theorem dX8_needWeight_15 : decode cX8_needWeight 15 = .ok (.ldc_w 325, 3) := by decide +kernel
theorem dX8_needWeight_18 : decode cX8_needWeight 18 = .ok (.invokespecial 55, 3) := by decide +kernel
theorem dX8_needWeight_21 : decode cX8_needWeight 21 = .ok (.athrow, 1) := by decide +kernel
theorem dX8_needWeight_22 : decode cX8_needWeight 22 = .ok (.return_, 1) := by decide +kernel
theorem dX8_needPacketValues_0 : decode cX8_needPacketValues 0 = .ok (.iload_n 0, 1) := by decide +kernel
theorem dX8_needPacketValues_1 : decode cX8_needPacketValues 1 = .ok (.iconst 1, 1) := by decide +kernel
theorem dX8_needPacketValues_2 : decode cX8_needPacketValues 2 = .ok (.if_icmp .lt 10, 3) := by decide +kernel
theorem dX8_needPacketValues_5 : decode cX8_needPacketValues 5 = .ok (.iload_n 0, 1) := by decide +kernel
theorem dX8_needPacketValues_6 : decode cX8_needPacketValues 6 = .ok (.sipush 1500, 3) := by decide +kernel
theorem dX8_needPacketValues_9 : decode cX8_needPacketValues 9 = .ok (.if_icmp .le 14, 3) := by decide +kernel
theorem dX8_needPacketValues_12 : decode cX8_needPacketValues 12 = .ok (.new 51, 3) := by decide +kernel
theorem dX8_needPacketValues_15 : decode cX8_needPacketValues 15 = .ok (.dup, 1) := by decide +kernel
theorem dX8_needPacketValues_16 : decode cX8_needPacketValues 16 = .ok (.ldc_w 327, 3) := by decide +kernel
theorem dX8_needPacketValues_19 : decode cX8_needPacketValues 19 = .ok (.invokespecial 55, 3) := by decide +kernel
theorem dX8_needPacketValues_22 : decode cX8_needPacketValues 22 = .ok (.athrow, 1) := by decide +kernel
theorem dX8_needPacketValues_23 : decode cX8_needPacketValues 23 = .ok (.iload_n 1, 1) := by decide +kernel
theorem dX8_needPacketValues_24 : decode cX8_needPacketValues 24 = .ok (.ifCond .lt 9, 3) := by decide +kernel
theorem dX8_needPacketValues_27 : decode cX8_needPacketValues 27 = .ok (.iload_n 1, 1) := by decide +kernel
theorem dX8_needPacketValues_28 : decode cX8_needPacketValues 28 = .ok (.bipush 9, 2) := by decide +kernel
theorem dX8_needPacketValues_30 : decode cX8_needPacketValues 30 = .ok (.if_icmp .le 14, 3) := by decide +kernel
theorem dX8_needPacketValues_33 : decode cX8_needPacketValues 33 = .ok (.new 51, 3) := by decide +kernel
theorem dX8_needPacketValues_36 : decode cX8_needPacketValues 36 = .ok (.dup, 1) := by decide +kernel
theorem dX8_needPacketValues_37 : decode cX8_needPacketValues 37 = .ok (.ldc_w 329, 3) := by decide +kernel
theorem dX8_needPacketValues_40 : decode cX8_needPacketValues 40 = .ok (.invokespecial 55, 3) := by decide +kernel
theorem dX8_needPacketValues_43 : decode cX8_needPacketValues 43 = .ok (.athrow, 1) := by decide +kernel
theorem dX8_needPacketValues_44 : decode cX8_needPacketValues 44 = .ok (.iload_n 2, 1) := by decide +kernel
theorem dX8_needPacketValues_45 : decode cX8_needPacketValues 45 = .ok (.ifCond .lt 10, 3) := by decide +kernel
theorem dX8_needPacketValues_48 : decode cX8_needPacketValues 48 = .ok (.iload_n 2, 1) := by decide +kernel
theorem dX8_needPacketValues_49 : decode cX8_needPacketValues 49 = .ok (.ldc_w 331, 3) := by decide +kernel
theorem dX8_needPacketValues_52 : decode cX8_needPacketValues 52 = .ok (.if_icmp .le 14, 3) := by decide +kernel
theorem dX8_needPacketValues_55 : decode cX8_needPacketValues 55 = .ok (.new 51, 3) := by decide +kernel
theorem dX8_needPacketValues_58 : decode cX8_needPacketValues 58 = .ok (.dup, 1) := by decide +kernel
theorem dX8_needPacketValues_59 : decode cX8_needPacketValues 59 = .ok (.ldc_w 332, 3) := by decide +kernel
theorem dX8_needPacketValues_62 : decode cX8_needPacketValues 62 = .ok (.invokespecial 55, 3) := by decide +kernel
theorem dX8_needPacketValues_65 : decode cX8_needPacketValues 65 = .ok (.athrow, 1) := by decide +kernel
theorem dX8_needPacketValues_66 : decode cX8_needPacketValues 66 = .ok (.return_, 1) := by decide +kernel
theorem dX8_needCheckpoint_0 : decode cX8_needCheckpoint 0 = .ok (.aload_n 0, 1) := by decide +kernel
theorem dX8_needCheckpoint_1 : decode cX8_needCheckpoint 1 = .ok (.getfield 279, 3) := by decide +kernel
theorem dX8_needCheckpoint_4 : decode cX8_needCheckpoint 4 = .ok (.iconst 1, 1) := by decide +kernel
theorem dX8_needCheckpoint_5 : decode cX8_needCheckpoint 5 = .ok (.if_icmp .lt 15, 3) := by decide +kernel
theorem dX8_needCheckpoint_8 : decode cX8_needCheckpoint 8 = .ok (.aload_n 0, 1) := by decide +kernel
theorem dX8_needCheckpoint_9 : decode cX8_needCheckpoint 9 = .ok (.getfield 279, 3) := by decide +kernel
theorem dX8_needCheckpoint_12 : decode cX8_needCheckpoint 12 = .ok (.aload_n 0, 1) := by decide +kernel
theorem dX8_needCheckpoint_13 : decode cX8_needCheckpoint 13 = .ok (.getfield 26, 3) := by decide +kernel
theorem dX8_needCheckpoint_16 : decode cX8_needCheckpoint 16 = .ok (.arraylength, 1) := by decide +kernel
theorem dX8_needCheckpoint_17 : decode cX8_needCheckpoint 17 = .ok (.if_icmp .le 14, 3) := by decide +kernel
theorem dX8_needCheckpoint_20 : decode cX8_needCheckpoint 20 = .ok (.new 61, 3) := by decide +kernel
theorem dX8_needCheckpoint_23 : decode cX8_needCheckpoint 23 = .ok (.dup, 1) := by decide +kernel
theorem dX8_needCheckpoint_24 : decode cX8_needCheckpoint 24 = .ok (.ldc_w 334, 3) := by decide +kernel
theorem dX8_needCheckpoint_27 : decode cX8_needCheckpoint 27 = .ok (.invokespecial 65, 3) := by decide +kernel
theorem dX8_needCheckpoint_30 : decode cX8_needCheckpoint 30 = .ok (.athrow, 1) := by decide +kernel
theorem dX8_needCheckpoint_31 : decode cX8_needCheckpoint 31 = .ok (.return_, 1) := by decide +kernel
theorem dX9_init_0 : decode cX9_init 0 = .ok (.aload_n 0, 1) := by decide +kernel
theorem dX9_init_1 : decode cX9_init 1 = .ok (.invokespecial 1, 3) := by decide +kernel
theorem dX9_init_4 : decode cX9_init 4 = .ok (.aload_n 0, 1) := by decide +kernel
theorem dX9_init_5 : decode cX9_init 5 = .ok (.sipush 7600, 3) := by decide +kernel
theorem dX9_init_8 : decode cX9_init 8 = .ok (.newarray .long, 2) := by decide +kernel
theorem dX9_init_10 : decode cX9_init 10 = .ok (.putfield 7, 3) := by decide +kernel
theorem dX9_init_13 : decode cX9_init 13 = .ok (.aload_n 0, 1) := by decide +kernel
theorem dX9_init_14 : decode cX9_init 14 = .ok (.sipush 7600, 3) := by decide +kernel
theorem dX9_init_17 : decode cX9_init 17 = .ok (.newarray .long, 2) := by decide +kernel
theorem dX9_init_19 : decode cX9_init 19 = .ok (.putfield 13, 3) := by decide +kernel
theorem dX9_init_22 : decode cX9_init 22 = .ok (.aload_n 0, 1) := by decide +kernel
theorem dX9_init_23 : decode cX9_init 23 = .ok (.sipush 22800, 3) := by decide +kernel
theorem dX9_init_26 : decode cX9_init 26 = .ok (.newarray .long, 2) := by decide +kernel
theorem dX9_init_28 : decode cX9_init 28 = .ok (.putfield 16, 3) := by decide +kernel
theorem dX9_init_31 : decode cX9_init 31 = .ok (.aload_n 0, 1) := by decide +kernel
theorem dX9_init_32 : decode cX9_init 32 = .ok (.bipush 93, 2) := by decide +kernel
theorem dX9_init_34 : decode cX9_init 34 = .ok (.newarray .char, 2) := by decide +kernel
theorem dX9_init_36 : decode cX9_init 36 = .ok (.dup, 1) := by decide +kernel
theorem dX9_init_37 : decode cX9_init 37 = .ok (.iconst 0, 1) := by decide +kernel
theorem dX9_init_38 : decode cX9_init 38 = .ok (.bipush 48, 2) := by decide +kernel
theorem dX9_init_40 : decode cX9_init 40 = .ok (.castore, 1) := by decide +kernel
theorem dX9_init_41 : decode cX9_init 41 = .ok (.dup, 1) := by decide +kernel
theorem dX9_init_42 : decode cX9_init 42 = .ok (.iconst 1, 1) := by decide +kernel
theorem dX9_init_43 : decode cX9_init 43 = .ok (.bipush 32, 2) := by decide +kernel
theorem dX9_init_45 : decode cX9_init 45 = .ok (.castore, 1) := by decide +kernel
theorem dX9_init_46 : decode cX9_init 46 = .ok (.dup, 1) := by decide +kernel
theorem dX9_init_47 : decode cX9_init 47 = .ok (.iconst 2, 1) := by decide +kernel
theorem dX9_init_48 : decode cX9_init 48 = .ok (.bipush 112, 2) := by decide +kernel
theorem dX9_init_50 : decode cX9_init 50 = .ok (.castore, 1) := by decide +kernel
theorem dX9_init_51 : decode cX9_init 51 = .ok (.dup, 1) := by decide +kernel
theorem dX9_init_52 : decode cX9_init 52 = .ok (.iconst 3, 1) := by decide +kernel
theorem dX9_init_53 : decode cX9_init 53 = .ok (.bipush 32, 2) := by decide +kernel
theorem dX9_init_55 : decode cX9_init 55 = .ok (.castore, 1) := by decide +kernel
theorem dX9_init_56 : decode cX9_init 56 = .ok (.dup, 1) := by decide +kernel
theorem dX9_init_57 : decode cX9_init 57 = .ok (.iconst 4, 1) := by decide +kernel
theorem dX9_init_58 : decode cX9_init 58 = .ok (.bipush 100, 2) := by decide +kernel
theorem dX9_init_60 : decode cX9_init 60 = .ok (.castore, 1) := by decide +kernel
theorem dX9_init_61 : decode cX9_init 61 = .ok (.dup, 1) := by decide +kernel
theorem dX9_init_62 : decode cX9_init 62 = .ok (.iconst 5, 1) := by decide +kernel
theorem dX9_init_63 : decode cX9_init 63 = .ok (.bipush 32, 2) := by decide +kernel
theorem dX9_init_65 : decode cX9_init 65 = .ok (.castore, 1) := by decide +kernel
theorem dX9_init_66 : decode cX9_init 66 = .ok (.dup, 1) := by decide +kernel
theorem dX9_init_67 : decode cX9_init 67 = .ok (.bipush 6, 2) := by decide +kernel
theorem dX9_init_69 : decode cX9_init 69 = .ok (.bipush 77, 2) := by decide +kernel
theorem dX9_init_71 : decode cX9_init 71 = .ok (.castore, 1) := by decide +kernel
theorem dX9_init_72 : decode cX9_init 72 = .ok (.dup, 1) := by decide +kernel
theorem dX9_init_73 : decode cX9_init 73 = .ok (.bipush 7, 2) := by decide +kernel
theorem dX9_init_75 : decode cX9_init 75 = .ok (.bipush 40, 2) := by decide +kernel
theorem dX9_init_77 : decode cX9_init 77 = .ok (.castore, 1) := by decide +kernel
theorem dX9_init_78 : decode cX9_init 78 = .ok (.dup, 1) := by decide +kernel
theorem dX9_init_79 : decode cX9_init 79 = .ok (.bipush 8, 2) := by decide +kernel
theorem dX9_init_81 : decode cX9_init 81 = .ok (.bipush 118, 2) := by decide +kernel
theorem dX9_init_83 : decode cX9_init 83 = .ok (.castore, 1) := by decide +kernel
theorem dX9_init_84 : decode cX9_init 84 = .ok (.dup, 1) := by decide +kernel
theorem dX9_init_85 : decode cX9_init 85 = .ok (.bipush 9, 2) := by decide +kernel
theorem dX9_init_87 : decode cX9_init 87 = .ok (.bipush 44, 2) := by decide +kernel
theorem dX9_init_89 : decode cX9_init 89 = .ok (.castore, 1) := by decide +kernel
theorem dX9_init_90 : decode cX9_init 90 = .ok (.dup, 1) := by decide +kernel
theorem dX9_init_91 : decode cX9_init 91 = .ok (.bipush 10, 2) := by decide +kernel
theorem dX9_init_93 : decode cX9_init 93 = .ok (.bipush 97, 2) := by decide +kernel
theorem dX9_init_95 : decode cX9_init 95 = .ok (.castore, 1) := by decide +kernel
theorem dX9_init_96 : decode cX9_init 96 = .ok (.dup, 1) := by decide +kernel
theorem dX9_init_97 : decode cX9_init 97 = .ok (.bipush 11, 2) := by decide +kernel
theorem dX9_init_99 : decode cX9_init 99 = .ok (.bipush 41, 2) := by decide +kernel
theorem dX9_init_101 : decode cX9_init 101 = .ok (.castore, 1) := by decide +kernel
theorem dX9_init_102 : decode cX9_init 102 = .ok (.dup, 1) := by decide +kernel
theorem dX9_init_103 : decode cX9_init 103 = .ok (.bipush 12, 2) := by decide +kernel
theorem dX9_init_105 : decode cX9_init 105 = .ok (.bipush 58, 2) := by decide +kernel
theorem dX9_init_107 : decode cX9_init 107 = .ok (.castore, 1) := by decide +kernel
theorem dX9_init_108 : decode cX9_init 108 = .ok (.dup, 1) := by decide +kernel
theorem dX9_init_109 : decode cX9_init 109 = .ok (.bipush 13, 2) := by decide +kernel
theorem dX9_init_111 : decode cX9_init 111 = .ok (.bipush 114, 2) := by decide +kernel
theorem dX9_init_113 : decode cX9_init 113 = .ok (.castore, 1) := by decide +kernel
theorem dX9_init_114 : decode cX9_init 114 = .ok (.dup, 1) := by decide +kernel
theorem dX9_init_115 : decode cX9_init 115 = .ok (.bipush 14, 2) := by decide +kernel
theorem dX9_init_117 : decode cX9_init 117 = .ok (.bipush 43, 2) := by decide +kernel
theorem dX9_init_119 : decode cX9_init 119 = .ok (.castore, 1) := by decide +kernel
theorem dX9_init_120 : decode cX9_init 120 = .ok (.dup, 1) := by decide +kernel
theorem dX9_init_121 : decode cX9_init 121 = .ok (.bipush 15, 2) := by decide +kernel
theorem dX9_init_123 : decode cX9_init 123 = .ok (.bipush 108, 2) := by decide +kernel
theorem dX9_init_125 : decode cX9_init 125 = .ok (.castore, 1) := by decide +kernel
theorem dX9_init_126 : decode cX9_init 126 = .ok (.dup, 1) := by decide +kernel
theorem dX9_init_127 : decode cX9_init 127 = .ok (.bipush 16, 2) := by decide +kernel
theorem dX9_init_129 : decode cX9_init 129 = .ok (.bipush 47, 2) := by decide +kernel
theorem dX9_init_131 : decode cX9_init 131 = .ok (.castore, 1) := by decide +kernel
theorem dX9_init_132 : decode cX9_init 132 = .ok (.dup, 1) := by decide +kernel
theorem dX9_init_133 : decode cX9_init 133 = .ok (.bipush 17, 2) := by decide +kernel
theorem dX9_init_135 : decode cX9_init 135 = .ok (.bipush 119, 2) := by decide +kernel
theorem dX9_init_137 : decode cX9_init 137 = .ok (.castore, 1) := by decide +kernel
theorem dX9_init_138 : decode cX9_init 138 = .ok (.dup, 1) := by decide +kernel
theorem dX9_init_139 : decode cX9_init 139 = .ok (.bipush 18, 2) := by decide +kernel
theorem dX9_init_141 : decode cX9_init 141 = .ok (.bipush 32, 2) := by decide +kernel
theorem dX9_init_143 : decode cX9_init 143 = .ok (.castore, 1) := by decide +kernel
theorem dX9_init_144 : decode cX9_init 144 = .ok (.dup, 1) := by decide +kernel
theorem dX9_init_145 : decode cX9_init 145 = .ok (.bipush 19, 2) := by decide +kernel
theorem dX9_init_147 : decode cX9_init 147 = .ok (.bipush 77, 2) := by decide +kernel
theorem dX9_init_149 : decode cX9_init 149 = .ok (.castore, 1) := by decide +kernel
theorem dX9_init_150 : decode cX9_init 150 = .ok (.dup, 1) := by decide +kernel
theorem dX9_init_151 : decode cX9_init 151 = .ok (.bipush 20, 2) := by decide +kernel
theorem dX9_init_153 : decode cX9_init 153 = .ok (.bipush 40, 2) := by decide +kernel
theorem dX9_init_155 : decode cX9_init 155 = .ok (.castore, 1) := by decide +kernel
theorem dX9_init_156 : decode cX9_init 156 = .ok (.dup, 1) := by decide +kernel
theorem dX9_init_157 : decode cX9_init 157 = .ok (.bipush 21, 2) := by decide +kernel
theorem dX9_init_159 : decode cX9_init 159 = .ok (.bipush 118, 2) := by decide +kernel
theorem dX9_init_161 : decode cX9_init 161 = .ok (.castore, 1) := by decide +kernel
theorem dX9_init_162 : decode cX9_init 162 = .ok (.dup, 1) := by decide +kernel
theorem dX9_init_163 : decode cX9_init 163 = .ok (.bipush 22, 2) := by decide +kernel
theorem dX9_init_165 : decode cX9_init 165 = .ok (.bipush 44, 2) := by decide +kernel
theorem dX9_init_167 : decode cX9_init 167 = .ok (.castore, 1) := by decide +kernel
theorem dX9_init_168 : decode cX9_init 168 = .ok (.dup, 1) := by decide +kernel
theorem dX9_init_169 : decode cX9_init 169 = .ok (.bipush 23, 2) := by decide +kernel
theorem dX9_init_171 : decode cX9_init 171 = .ok (.bipush 97, 2) := by decide +kernel
theorem dX9_init_173 : decode cX9_init 173 = .ok (.castore, 1) := by decide +kernel
theorem dX9_init_174 : decode cX9_init 174 = .ok (.dup, 1) := by decide +kernel
theorem dX9_init_175 : decode cX9_init 175 = .ok (.bipush 24, 2) := by decide +kernel
theorem dX9_init_177 : decode cX9_init 177 = .ok (.bipush 41, 2) := by decide +kernel
theorem dX9_init_179 : decode cX9_init 179 = .ok (.castore, 1) := by decide +kernel
theorem dX9_init_180 : decode cX9_init 180 = .ok (.dup, 1) := by decide +kernel
theorem dX9_init_181 : decode cX9_init 181 = .ok (.bipush 25, 2) := by decide +kernel
theorem dX9_init_183 : decode cX9_init 183 = .ok (.bipush 58, 2) := by decide +kernel
theorem dX9_init_185 : decode cX9_init 185 = .ok (.castore, 1) := by decide +kernel
theorem dX9_init_186 : decode cX9_init 186 = .ok (.dup, 1) := by decide +kernel
theorem dX9_init_187 : decode cX9_init 187 = .ok (.bipush 26, 2) := by decide +kernel
theorem dX9_init_189 : decode cX9_init 189 = .ok (.bipush 114, 2) := by decide +kernel
theorem dX9_init_191 : decode cX9_init 191 = .ok (.castore, 1) := by decide +kernel
theorem dX9_init_192 : decode cX9_init 192 = .ok (.dup, 1) := by decide +kernel
theorem dX9_init_193 : decode cX9_init 193 = .ok (.bipush 27, 2) := by decide +kernel
theorem dX9_init_195 : decode cX9_init 195 = .ok (.bipush 43, 2) := by decide +kernel
theorem dX9_init_197 : decode cX9_init 197 = .ok (.castore, 1) := by decide +kernel
theorem dX9_init_198 : decode cX9_init 198 = .ok (.dup, 1) := by decide +kernel
theorem dX9_init_199 : decode cX9_init 199 = .ok (.bipush 28, 2) := by decide +kernel
theorem dX9_init_201 : decode cX9_init 201 = .ok (.bipush 108, 2) := by decide +kernel
theorem dX9_init_203 : decode cX9_init 203 = .ok (.castore, 1) := by decide +kernel
theorem dX9_init_204 : decode cX9_init 204 = .ok (.dup, 1) := by decide +kernel
theorem dX9_init_205 : decode cX9_init 205 = .ok (.bipush 29, 2) := by decide +kernel
theorem dX9_init_207 : decode cX9_init 207 = .ok (.bipush 42, 2) := by decide +kernel
theorem dX9_init_209 : decode cX9_init 209 = .ok (.castore, 1) := by decide +kernel
theorem dX9_init_210 : decode cX9_init 210 = .ok (.dup, 1) := by decide +kernel
theorem dX9_init_211 : decode cX9_init 211 = .ok (.bipush 30, 2) := by decide +kernel
theorem dX9_init_213 : decode cX9_init 213 = .ok (.bipush 49, 2) := by decide +kernel
theorem dX9_init_215 : decode cX9_init 215 = .ok (.castore, 1) := by decide +kernel
theorem dX9_init_216 : decode cX9_init 216 = .ok (.dup, 1) := by decide +kernel
theorem dX9_init_217 : decode cX9_init 217 = .ok (.bipush 31, 2) := by decide +kernel
theorem dX9_init_219 : decode cX9_init 219 = .ok (.bipush 48, 2) := by decide +kernel
theorem dX9_init_221 : decode cX9_init 221 = .ok (.castore, 1) := by decide +kernel
theorem dX9_init_222 : decode cX9_init 222 = .ok (.dup, 1) := by decide +kernel
theorem dX9_init_223 : decode cX9_init 223 = .ok (.bipush 32, 2) := by decide +kernel
theorem dX9_init_225 : decode cX9_init 225 = .ok (.bipush 48, 2) := by decide +kernel
theorem dX9_init_227 : decode cX9_init 227 = .ok (.castore, 1) := by decide +kernel
theorem dX9_init_228 : decode cX9_init 228 = .ok (.dup, 1) := by decide +kernel
theorem dX9_init_229 : decode cX9_init 229 = .ok (.bipush 33, 2) := by decide +kernel
theorem dX9_init_231 : decode cX9_init 231 = .ok (.bipush 47, 2) := by decide +kernel
theorem dX9_init_233 : decode cX9_init 233 = .ok (.castore, 1) := by decide +kernel
theorem dX9_init_234 : decode cX9_init 234 = .ok (.dup, 1) := by decide +kernel
theorem dX9_init_235 : decode cX9_init 235 = .ok (.bipush 34, 2) := by decide +kernel
theorem dX9_init_237 : decode cX9_init 237 = .ok (.bipush 119, 2) := by decide +kernel
theorem dX9_init_239 : decode cX9_init 239 = .ok (.castore, 1) := by decide +kernel
theorem dX9_init_240 : decode cX9_init 240 = .ok (.dup, 1) := by decide +kernel
theorem dX9_init_241 : decode cX9_init 241 = .ok (.bipush 35, 2) := by decide +kernel
theorem dX9_init_243 : decode cX9_init 243 = .ok (.bipush 59, 2) := by decide +kernel
theorem dX9_init_245 : decode cX9_init 245 = .ok (.castore, 1) := by decide +kernel
theorem dX9_init_246 : decode cX9_init 246 = .ok (.dup, 1) := by decide +kernel
theorem dX9_init_247 : decode cX9_init 247 = .ok (.bipush 36, 2) := by decide +kernel
theorem dX9_init_249 : decode cX9_init 249 = .ok (.bipush 48, 2) := by decide +kernel
theorem dX9_init_251 : decode cX9_init 251 = .ok (.castore, 1) := by decide +kernel
theorem dX9_init_252 : decode cX9_init 252 = .ok (.dup, 1) := by decide +kernel
theorem dX9_init_253 : decode cX9_init 253 = .ok (.bipush 37, 2) := by decide +kernel
theorem dX9_init_255 : decode cX9_init 255 = .ok (.bipush 60, 2) := by decide +kernel
theorem dX9_init_257 : decode cX9_init 257 = .ok (.castore, 1) := by decide +kernel
theorem dX9_init_258 : decode cX9_init 258 = .ok (.dup, 1) := by decide +kernel
theorem dX9_init_259 : decode cX9_init 259 = .ok (.bipush 38, 2) := by decide +kernel
theorem dX9_init_261 : decode cX9_init 261 = .ok (.bipush 112, 2) := by decide +kernel
theorem dX9_init_263 : decode cX9_init 263 = .ok (.castore, 1) := by decide +kernel
theorem dX9_init_264 : decode cX9_init 264 = .ok (.dup, 1) := by decide +kernel
theorem dX9_init_265 : decode cX9_init 265 = .ok (.bipush 39, 2) := by decide +kernel
theorem dX9_init_267 : decode cX9_init 267 = .ok (.bipush 59, 2) := by decide +kernel
theorem dX9_init_269 : decode cX9_init 269 = .ok (.castore, 1) := by decide +kernel
theorem dX9_init_270 : decode cX9_init 270 = .ok (.dup, 1) := by decide +kernel
theorem dX9_init_271 : decode cX9_init 271 = .ok (.bipush 40, 2) := by decide +kernel
theorem dX9_init_273 : decode cX9_init 273 = .ok (.bipush 48, 2) := by decide +kernel
theorem dX9_init_275 : decode cX9_init 275 = .ok (.castore, 1) := by decide +kernel
theorem dX9_init_276 : decode cX9_init 276 = .ok (.dup, 1) := by decide +kernel
theorem dX9_init_277 : decode cX9_init 277 = .ok (.bipush 41, 2) := by decide +kernel
theorem dX9_init_279 : decode cX9_init 279 = .ok (.bipush 60, 2) := by decide +kernel
theorem dX9_init_281 : decode cX9_init 281 = .ok (.castore, 1) := by decide +kernel
theorem dX9_init_282 : decode cX9_init 282 = .ok (.dup, 1) := by decide +kernel
theorem dX9_init_283 : decode cX9_init 283 = .ok (.bipush 42, 2) := by decide +kernel
theorem dX9_init_285 : decode cX9_init 285 = .ok (.bipush 100, 2) := by decide +kernel
theorem dX9_init_287 : decode cX9_init 287 = .ok (.castore, 1) := by decide +kernel
theorem dX9_init_288 : decode cX9_init 288 = .ok (.dup, 1) := by decide +kernel
theorem dX9_init_289 : decode cX9_init 289 = .ok (.bipush 43, 2) := by decide +kernel
theorem dX9_init_291 : decode cX9_init 291 = .ok (.bipush 59, 2) := by decide +kernel
theorem dX9_init_293 : decode cX9_init 293 = .ok (.castore, 1) := by decide +kernel
theorem dX9_init_294 : decode cX9_init 294 = .ok (.dup, 1) := by decide +kernel
theorem dX9_init_295 : decode cX9_init 295 = .ok (.bipush 44, 2) := by decide +kernel
theorem dX9_init_297 : decode cX9_init 297 = .ok (.bipush 48, 2) := by decide +kernel
theorem dX9_init_299 : decode cX9_init 299 = .ok (.castore, 1) := by decide +kernel
theorem dX9_init_300 : decode cX9_init 300 = .ok (.dup, 1) := by decide +kernel
theorem dX9_init_301 : decode cX9_init 301 = .ok (.bipush 45, 2) := by decide +kernel
theorem dX9_init_303 : decode cX9_init 303 = .ok (.bipush 60, 2) := by decide +kernel
theorem dX9_init_305 : decode cX9_init 305 = .ok (.castore, 1) := by decide +kernel
theorem dX9_init_306 : decode cX9_init 306 = .ok (.dup, 1) := by decide +kernel
theorem dX9_init_307 : decode cX9_init 307 = .ok (.bipush 46, 2) := by decide +kernel
theorem dX9_init_309 : decode cX9_init 309 = .ok (.bipush 77, 2) := by decide +kernel
theorem dX9_init_311 : decode cX9_init 311 = .ok (.castore, 1) := by decide +kernel
theorem dX9_init_312 : decode cX9_init 312 = .ok (.dup, 1) := by decide +kernel
theorem dX9_init_313 : decode cX9_init 313 = .ok (.bipush 47, 2) := by decide +kernel
theorem dX9_init_315 : decode cX9_init 315 = .ok (.bipush 40, 2) := by decide +kernel
theorem dX9_init_317 : decode cX9_init 317 = .ok (.castore, 1) := by decide +kernel
theorem dX9_init_318 : decode cX9_init 318 = .ok (.dup, 1) := by decide +kernel
theorem dX9_init_319 : decode cX9_init 319 = .ok (.bipush 48, 2) := by decide +kernel
theorem dX9_init_321 : decode cX9_init 321 = .ok (.bipush 118, 2) := by decide +kernel
theorem dX9_init_323 : decode cX9_init 323 = .ok (.castore, 1) := by decide +kernel
theorem dX9_init_324 : decode cX9_init 324 = .ok (.dup, 1) := by decide +kernel
theorem dX9_init_325 : decode cX9_init 325 = .ok (.bipush 49, 2) := by decide +kernel
theorem dX9_init_327 : decode cX9_init 327 = .ok (.bipush 44, 2) := by decide +kernel
theorem dX9_init_329 : decode cX9_init 329 = .ok (.castore, 1) := by decide +kernel
theorem dX9_init_330 : decode cX9_init 330 = .ok (.dup, 1) := by decide +kernel
theorem dX9_init_331 : decode cX9_init 331 = .ok (.bipush 50, 2) := by decide +kernel
theorem dX9_init_333 : decode cX9_init 333 = .ok (.bipush 97, 2) := by decide +kernel
theorem dX9_init_335 : decode cX9_init 335 = .ok (.castore, 1) := by decide +kernel
theorem dX9_init_336 : decode cX9_init 336 = .ok (.dup, 1) := by decide +kernel
theorem dX9_init_337 : decode cX9_init 337 = .ok (.bipush 51, 2) := by decide +kernel
theorem dX9_init_339 : decode cX9_init 339 = .ok (.bipush 41, 2) := by decide +kernel
theorem dX9_init_341 : decode cX9_init 341 = .ok (.castore, 1) := by decide +kernel
theorem dX9_init_342 : decode cX9_init 342 = .ok (.dup, 1) := by decide +kernel
theorem dX9_init_343 : decode cX9_init 343 = .ok (.bipush 52, 2) := by decide +kernel
theorem dX9_init_345 : decode cX9_init 345 = .ok (.bipush 58, 2) := by decide +kernel
theorem dX9_init_347 : decode cX9_init 347 = .ok (.castore, 1) := by decide +kernel
theorem dX9_init_348 : decode cX9_init 348 = .ok (.dup, 1) := by decide +kernel
theorem dX9_init_349 : decode cX9_init 349 = .ok (.bipush 53, 2) := by decide +kernel
theorem dX9_init_351 : decode cX9_init 351 = .ok (.bipush 114, 2) := by decide +kernel
theorem dX9_init_353 : decode cX9_init 353 = .ok (.castore, 1) := by decide +kernel
theorem dX9_init_354 : decode cX9_init 354 = .ok (.dup, 1) := by decide +kernel
theorem dX9_init_355 : decode cX9_init 355 = .ok (.bipush 54, 2) := by decide +kernel
theorem dX9_init_357 : decode cX9_init 357 = .ok (.bipush 43, 2) := by decide +kernel
theorem dX9_init_359 : decode cX9_init 359 = .ok (.castore, 1) := by decide +kernel
theorem dX9_init_360 : decode cX9_init 360 = .ok (.dup, 1) := by decide +kernel
theorem dX9_init_361 : decode cX9_init 361 = .ok (.bipush 55, 2) := by decide +kernel
theorem dX9_init_363 : decode cX9_init 363 = .ok (.bipush 108, 2) := by decide +kernel
theorem dX9_init_365 : decode cX9_init 365 = .ok (.castore, 1) := by decide +kernel
theorem dX9_init_366 : decode cX9_init 366 = .ok (.dup, 1) := by decide +kernel
theorem dX9_init_367 : decode cX9_init 367 = .ok (.bipush 56, 2) := by decide +kernel
theorem dX9_init_369 : decode cX9_init 369 = .ok (.bipush 42, 2) := by decide +kernel
theorem dX9_init_371 : decode cX9_init 371 = .ok (.castore, 1) := by decide +kernel
theorem dX9_init_372 : decode cX9_init 372 = .ok (.dup, 1) := by decide +kernel
theorem dX9_init_373 : decode cX9_init 373 = .ok (.bipush 57, 2) := by decide +kernel
theorem dX9_init_375 : decode cX9_init 375 = .ok (.bipush 49, 2) := by decide +kernel
theorem dX9_init_377 : decode cX9_init 377 = .ok (.castore, 1) := by decide +kernel
theorem dX9_init_378 : decode cX9_init 378 = .ok (.dup, 1) := by decide +kernel
theorem dX9_init_379 : decode cX9_init 379 = .ok (.bipush 58, 2) := by decide +kernel
theorem dX9_init_381 : decode cX9_init 381 = .ok (.bipush 48, 2) := by decide +kernel
theorem dX9_init_383 : decode cX9_init 383 = .ok (.castore, 1) := by decide +kernel
theorem dX9_init_384 : decode cX9_init 384 = .ok (.dup, 1) := by decide +kernel
theorem dX9_init_385 : decode cX9_init 385 = .ok (.bipush 59, 2) := by decide +kernel
theorem dX9_init_387 : decode cX9_init 387 = .ok (.bipush 48, 2) := by decide +kernel
theorem dX9_init_389 : decode cX9_init 389 = .ok (.castore, 1) := by decide +kernel
theorem dX9_init_390 : decode cX9_init 390 = .ok (.dup, 1) := by decide +kernel
theorem dX9_init_391 : decode cX9_init 391 = .ok (.bipush 60, 2) := by decide +kernel
theorem dX9_init_393 : decode cX9_init 393 = .ok (.bipush 47, 2) := by decide +kernel
theorem dX9_init_395 : decode cX9_init 395 = .ok (.castore, 1) := by decide +kernel
theorem dX9_init_396 : decode cX9_init 396 = .ok (.dup, 1) := by decide +kernel
theorem dX9_init_397 : decode cX9_init 397 = .ok (.bipush 61, 2) := by decide +kernel
theorem dX9_init_399 : decode cX9_init 399 = .ok (.bipush 119, 2) := by decide +kernel
theorem dX9_init_401 : decode cX9_init 401 = .ok (.castore, 1) := by decide +kernel
theorem dX9_init_402 : decode cX9_init 402 = .ok (.dup, 1) := by decide +kernel
theorem dX9_init_403 : decode cX9_init 403 = .ok (.bipush 62, 2) := by decide +kernel
theorem dX9_init_405 : decode cX9_init 405 = .ok (.bipush 38, 2) := by decide +kernel
theorem dX9_init_407 : decode cX9_init 407 = .ok (.castore, 1) := by decide +kernel
theorem dX9_init_408 : decode cX9_init 408 = .ok (.dup, 1) := by decide +kernel
theorem dX9_init_409 : decode cX9_init 409 = .ok (.bipush 63, 2) := by decide +kernel
theorem dX9_init_411 : decode cX9_init 411 = .ok (.bipush 32, 2) := by decide +kernel
theorem dX9_init_413 : decode cX9_init 413 = .ok (.castore, 1) := by decide +kernel
theorem dX9_init_414 : decode cX9_init 414 = .ok (.dup, 1) := by decide +kernel
theorem dX9_init_415 : decode cX9_init 415 = .ok (.bipush 64, 2) := by decide +kernel
theorem dX9_init_417 : decode cX9_init 417 = .ok (.bipush 116, 2) := by decide +kernel
theorem dX9_init_419 : decode cX9_init 419 = .ok (.castore, 1) := by decide +kernel
theorem dX9_init_420 : decode cX9_init 420 = .ok (.dup, 1) := by decide +kernel
theorem dX9_init_421 : decode cX9_init 421 = .ok (.bipush 65, 2) := by decide +kernel
theorem dX9_init_423 : decode cX9_init 423 = .ok (.bipush 59, 2) := by decide +kernel
theorem dX9_init_425 : decode cX9_init 425 = .ok (.castore, 1) := by decide +kernel
theorem dX9_init_426 : decode cX9_init 426 = .ok (.dup, 1) := by decide +kernel
theorem dX9_init_427 : decode cX9_init 427 = .ok (.bipush 66, 2) := by decide +kernel
theorem dX9_init_429 : decode cX9_init 429 = .ok (.bipush 48, 2) := by decide +kernel
theorem dX9_init_431 : decode cX9_init 431 = .ok (.castore, 1) := by decide +kernel
theorem dX9_init_432 : decode cX9_init 432 = .ok (.dup, 1) := by decide +kernel
theorem dX9_init_433 : decode cX9_init 433 = .ok (.bipush 67, 2) := by decide +kernel
theorem dX9_init_435 : decode cX9_init 435 = .ok (.bipush 60, 2) := by decide +kernel
theorem dX9_init_437 : decode cX9_init 437 = .ok (.castore, 1) := by decide +kernel
theorem dX9_init_438 : decode cX9_init 438 = .ok (.dup, 1) := by decide +kernel
theorem dX9_init_439 : decode cX9_init 439 = .ok (.bipush 68, 2) := by decide +kernel
theorem dX9_init_441 : decode cX9_init 441 = .ok (.bipush 112, 2) := by decide +kernel
theorem dX9_init_443 : decode cX9_init 443 = .ok (.castore, 1) := by decide +kernel
theorem dX9_init_444 : decode cX9_init 444 = .ok (.dup, 1) := by decide +kernel
theorem dX9_init_445 : decode cX9_init 445 = .ok (.bipush 69, 2) := by decide +kernel
theorem dX9_init_447 : decode cX9_init 447 = .ok (.bipush 64, 2) := by decide +kernel
theorem dX9_init_449 : decode cX9_init 449 = .ok (.castore, 1) := by decide +kernel
theorem dX9_init_450 : decode cX9_init 450 = .ok (.dup, 1) := by decide +kernel
theorem dX9_init_451 : decode cX9_init 451 = .ok (.bipush 70, 2) := by decide +kernel
theorem dX9_init_453 : decode cX9_init 453 = .ok (.bipush 49, 2) := by decide +kernel
theorem dX9_init_455 : decode cX9_init 455 = .ok (.castore, 1) := by decide +kernel
theorem dX9_init_456 : decode cX9_init 456 = .ok (.dup, 1) := by decide +kernel
theorem dX9_init_457 : decode cX9_init 457 = .ok (.bipush 71, 2) := by decide +kernel
theorem dX9_init_459 : decode cX9_init 459 = .ok (.bipush 48, 2) := by decide +kernel
theorem dX9_init_461 : decode cX9_init 461 = .ok (.castore, 1) := by decide +kernel
theorem dX9_init_462 : decode cX9_init 462 = .ok (.dup, 1) := by decide +kernel
theorem dX9_init_463 : decode cX9_init 463 = .ok (.bipush 72, 2) := by decide +kernel
theorem dX9_init_465 : decode cX9_init 465 = .ok (.bipush 48, 2) := by decide +kernel
theorem dX9_init_467 : decode cX9_init 467 = .ok (.castore, 1) := by decide +kernel
theorem dX9_init_468 : decode cX9_init 468 = .ok (.dup, 1) := by decide +kernel
theorem dX9_init_469 : decode cX9_init 469 = .ok (.bipush 73, 2) := by decide +kernel
theorem dX9_init_471 : decode cX9_init 471 = .ok (.bipush 44, 2) := by decide +kernel
theorem dX9_init_473 : decode cX9_init 473 = .ok (.castore, 1) := by decide +kernel
theorem dX9_init_474 : decode cX9_init 474 = .ok (.dup, 1) := by decide +kernel
theorem dX9_init_475 : decode cX9_init 475 = .ok (.bipush 74, 2) := by decide +kernel
theorem dX9_init_477 : decode cX9_init 477 = .ok (.bipush 53, 2) := by decide +kernel
theorem dX9_init_479 : decode cX9_init 479 = .ok (.castore, 1) := by decide +kernel
theorem dX9_init_480 : decode cX9_init 480 = .ok (.dup, 1) := by decide +kernel
theorem dX9_init_481 : decode cX9_init 481 = .ok (.bipush 75, 2) := by decide +kernel
theorem dX9_init_483 : decode cX9_init 483 = .ok (.bipush 48, 2) := by decide +kernel
theorem dX9_init_485 : decode cX9_init 485 = .ok (.castore, 1) := by decide +kernel
theorem dX9_init_486 : decode cX9_init 486 = .ok (.dup, 1) := by decide +kernel
theorem dX9_init_487 : decode cX9_init 487 = .ok (.bipush 76, 2) := by decide +kernel
theorem dX9_init_489 : decode cX9_init 489 = .ok (.bipush 48, 2) := by decide +kernel
theorem dX9_init_491 : decode cX9_init 491 = .ok (.castore, 1) := by decide +kernel
theorem dX9_init_492 : decode cX9_init 492 = .ok (.dup, 1) := by decide +kernel
theorem dX9_init_493 : decode cX9_init 493 = .ok (.bipush 77, 2) := by decide +kernel
theorem dX9_init_495 : decode cX9_init 495 = .ok (.bipush 59, 2) := by decide +kernel
theorem dX9_init_497 : decode cX9_init 497 = .ok (.castore, 1) := by decide +kernel
theorem dX9_init_498 : decode cX9_init 498 = .ok (.dup, 1) := by decide +kernel
theorem dX9_init_499 : decode cX9_init 499 = .ok (.bipush 78, 2) := by decide +kernel
theorem dX9_init_501 : decode cX9_init 501 = .ok (.bipush 48, 2) := by decide +kernel
theorem dX9_init_503 : decode cX9_init 503 = .ok (.castore, 1) := by decide +kernel
theorem dX9_init_504 : decode cX9_init 504 = .ok (.dup, 1) := by decide +kernel
theorem dX9_init_505 : decode cX9_init 505 = .ok (.bipush 79, 2) := by decide +kernel
theorem dX9_init_507 : decode cX9_init 507 = .ok (.bipush 60, 2) := by decide +kernel
theorem dX9_init_509 : decode cX9_init 509 = .ok (.castore, 1) := by decide +kernel
theorem dX9_init_510 : decode cX9_init 510 = .ok (.dup, 1) := by decide +kernel
theorem dX9_init_511 : decode cX9_init 511 = .ok (.bipush 80, 2) := by decide +kernel
theorem dX9_init_513 : decode cX9_init 513 = .ok (.bipush 48, 2) := by decide +kernel
theorem dX9_init_515 : decode cX9_init 515 = .ok (.castore, 1) := by decide +kernel
theorem dX9_init_516 : decode cX9_init 516 = .ok (.dup, 1) := by decide +kernel
theorem dX9_init_517 : decode cX9_init 517 = .ok (.bipush 81, 2) := by decide +kernel
theorem dX9_init_519 : decode cX9_init 519 = .ok (.bipush 64, 2) := by decide +kernel
theorem dX9_init_521 : decode cX9_init 521 = .ok (.castore, 1) := by decide +kernel
theorem dX9_init_522 : decode cX9_init 522 = .ok (.dup, 1) := by decide +kernel
theorem dX9_init_523 : decode cX9_init 523 = .ok (.bipush 82, 2) := by decide +kernel
theorem dX9_init_525 : decode cX9_init 525 = .ok (.bipush 53, 2) := by decide +kernel
theorem dX9_init_527 : decode cX9_init 527 = .ok (.castore, 1) := by decide +kernel
theorem dX9_init_528 : decode cX9_init 528 = .ok (.dup, 1) := by decide +kernel
theorem dX9_init_529 : decode cX9_init 529 = .ok (.bipush 83, 2) := by decide +kernel
theorem dX9_init_531 : decode cX9_init 531 = .ok (.bipush 48, 2) := by decide +kernel
theorem dX9_init_533 : decode cX9_init 533 = .ok (.castore, 1) := by decide +kernel
theorem dX9_init_534 : decode cX9_init 534 = .ok (.dup, 1) := by decide +kernel
theorem dX9_init_535 : decode cX9_init 535 = .ok (.bipush 84, 2) := by decide +kernel
theorem dX9_init_537 : decode cX9_init 537 = .ok (.bipush 44, 2) := by decide +kernel
theorem dX9_init_539 : decode cX9_init 539 = .ok (.castore, 1) := by decide +kernel
theorem dX9_init_540 : decode cX9_init 540 = .ok (.dup, 1) := by decide +kernel
theorem dX9_init_541 : decode cX9_init 541 = .ok (.bipush 85, 2) := by decide +kernel
theorem dX9_init_543 : decode cX9_init 543 = .ok (.bipush 48, 2) := by decide +kernel
theorem dX9_init_545 : decode cX9_init 545 = .ok (.castore, 1) := by decide +kernel
theorem dX9_init_546 : decode cX9_init 546 = .ok (.dup, 1) := by decide +kernel
theorem dX9_init_547 : decode cX9_init 547 = .ok (.bipush 86, 2) := by decide +kernel
theorem dX9_init_549 : decode cX9_init 549 = .ok (.bipush 37, 2) := by decide +kernel
theorem dX9_init_551 : decode cX9_init 551 = .ok (.castore, 1) := by decide +kernel
theorem dX9_init_552 : decode cX9_init 552 = .ok (.dup, 1) := by decide +kernel
theorem dX9_init_553 : decode cX9_init 553 = .ok (.bipush 87, 2) := by decide +kernel
theorem dX9_init_555 : decode cX9_init 555 = .ok (.bipush 59, 2) := by decide +kernel
theorem dX9_init_557 : decode cX9_init 557 = .ok (.castore, 1) := by decide +kernel
theorem dX9_init_558 : decode cX9_init 558 = .ok (.dup, 1) := by decide +kernel
theorem dX9_init_559 : decode cX9_init 559 = .ok (.bipush 88, 2) := by decide +kernel
theorem dX9_init_561 : decode cX9_init 561 = .ok (.bipush 48, 2) := by decide +kernel
theorem dX9_init_563 : decode cX9_init 563 = .ok (.castore, 1) := by decide +kernel
theorem dX9_init_564 : decode cX9_init 564 = .ok (.dup, 1) := by decide +kernel
theorem dX9_init_565 : decode cX9_init 565 = .ok (.bipush 89, 2) := by decide +kernel
theorem dX9_init_567 : decode cX9_init 567 = .ok (.bipush 60, 2) := by decide +kernel
theorem dX9_init_569 : decode cX9_init 569 = .ok (.castore, 1) := by decide +kernel
theorem dX9_init_570 : decode cX9_init 570 = .ok (.dup, 1) := by decide +kernel
theorem dX9_init_571 : decode cX9_init 571 = .ok (.bipush 90, 2) := by decide +kernel
theorem dX9_init_573 : decode cX9_init 573 = .ok (.bipush 100, 2) := by decide +kernel
theorem dX9_init_575 : decode cX9_init 575 = .ok (.castore, 1) := by decide +kernel
theorem dX9_init_576 : decode cX9_init 576 = .ok (.dup, 1) := by decide +kernel
theorem dX9_init_577 : decode cX9_init 577 = .ok (.bipush 91, 2) := by decide +kernel
theorem dX9_init_579 : decode cX9_init 579 = .ok (.bipush 94, 2) := by decide +kernel
theorem dX9_init_581 : decode cX9_init 581 = .ok (.castore, 1) := by decide +kernel
theorem dX9_init_582 : decode cX9_init 582 = .ok (.dup, 1) := by decide +kernel
theorem dX9_init_583 : decode cX9_init 583 = .ok (.bipush 92, 2) := by decide +kernel
theorem dX9_init_585 : decode cX9_init 585 = .ok (.bipush 32, 2) := by decide +kernel
theorem dX9_init_587 : decode cX9_init 587 = .ok (.castore, 1) := by decide +kernel
theorem dX9_init_588 : decode cX9_init 588 = .ok (.putfield 19, 3) := by decide +kernel
theorem dX9_init_591 : decode cX9_init 591 = .ok (.aload_n 0, 1) := by decide +kernel
theorem dX9_init_592 : decode cX9_init 592 = .ok (.bipush 120, 2) := by decide +kernel
theorem dX9_init_594 : decode cX9_init 594 = .ok (.newarray .int, 2) := by decide +kernel
theorem dX9_init_596 : decode cX9_init 596 = .ok (.putfield 23, 3) := by decide +kernel
theorem dX9_init_599 : decode cX9_init 599 = .ok (.aload_n 0, 1) := by decide +kernel
theorem dX9_init_600 : decode cX9_init 600 = .ok (.iconst 3, 1) := by decide +kernel
theorem dX9_init_601 : decode cX9_init 601 = .ok (.newarray .int, 2) := by decide +kernel
theorem dX9_init_603 : decode cX9_init 603 = .ok (.putfield 27, 3) := by decide +kernel
theorem dX9_init_606 : decode cX9_init 606 = .ok (.aload_n 0, 1) := by decide +kernel
theorem dX9_init_607 : decode cX9_init 607 = .ok (.bipush 120, 2) := by decide +kernel
theorem dX9_init_609 : decode cX9_init 609 = .ok (.newarray .int, 2) := by decide +kernel
theorem dX9_init_611 : decode cX9_init 611 = .ok (.putfield 30, 3) := by decide +kernel
theorem dX9_init_614 : decode cX9_init 614 = .ok (.aload_n 0, 1) := by decide +kernel
theorem dX9_init_615 : decode cX9_init 615 = .ok (.sipush 144, 3) := by decide +kernel
theorem dX9_init_618 : decode cX9_init 618 = .ok (.newarray .int, 2) := by decide +kernel
theorem dX9_init_620 : decode cX9_init 620 = .ok (.putfield 33, 3) := by decide +kernel
theorem dX9_init_623 : decode cX9_init 623 = .ok (.aload_n 0, 1) := by decide +kernel
theorem dX9_init_624 : decode cX9_init 624 = .ok (.sipush 160, 3) := by decide +kernel
theorem dX9_init_627 : decode cX9_init 627 = .ok (.newarray .long, 2) := by decide +kernel
theorem dX9_init_629 : decode cX9_init 629 = .ok (.putfield 36, 3) := by decide +kernel
theorem dX9_init_632 : decode cX9_init 632 = .ok (.aload_n 0, 1) := by decide +kernel
theorem dX9_init_633 : decode cX9_init 633 = .ok (.sipush 130, 3) := by decide +kernel
theorem dX9_init_636 : decode cX9_init 636 = .ok (.newarray .int, 2) := by decide +kernel
theorem dX9_init_638 : decode cX9_init 638 = .ok (.putfield 39, 3) := by decide +kernel
theorem dX9_init_641 : decode cX9_init 641 = .ok (.aload_n 0, 1) := by decide +kernel
theorem dX9_init_642 : decode cX9_init 642 = .ok (.sipush 130, 3) := by decide +kernel
theorem dX9_init_645 : decode cX9_init 645 = .ok (.newarray .long, 2) := by decide +kernel
theorem dX9_init_647 : decode cX9_init 647 = .ok (.putfield 42, 3) := by decide +kernel
theorem dX9_init_650 : decode cX9_init 650 = .ok (.aload_n 0, 1) := by decide +kernel
theorem dX9_init_651 : decode cX9_init 651 = .ok (.bipush 10, 2) := by decide +kernel
theorem dX9_init_653 : decode cX9_init 653 = .ok (.newarray .long, 2) := by decide +kernel
theorem dX9_init_655 : decode cX9_init 655 = .ok (.putfield 45, 3) := by decide +kernel
theorem dX9_init_658 : decode cX9_init 658 = .ok (.aload_n 0, 1) := by decide +kernel
theorem dX9_init_659 : decode cX9_init 659 = .ok (.getfield 7, 3) := by decide +kernel
theorem dX9_init_662 : decode cX9_init 662 = .ok (.iconst 1, 1) := by decide +kernel
theorem dX9_init_663 : decode cX9_init 663 = .ok (.iload_n 1, 1) := by decide +kernel
theorem dX9_init_664 : decode cX9_init 664 = .ok (.iconst 1, 1) := by decide +kernel
theorem dX9_init_665 : decode cX9_init 665 = .ok (.if_icmp .ge 7, 3) := by decide +kernel
theorem dX9_init_668 : decode cX9_init 668 = .ok (.lconst 1, 1) := by decide +kernel
theorem dX9_init_669 : decode cX9_init 669 = .ok (.goto 18, 3) := by decide +kernel
theorem dX9_init_672 : decode cX9_init 672 = .ok (.iload_n 1, 1) := by decide +kernel
theorem dX9_init_673 : decode cX9_init 673 = .ok (.sipush 9999, 3) := by decide +kernel
theorem dX9_init_676 : decode cX9_init 676 = .ok (.if_icmp .le 9, 3) := by decide +kernel
theorem dX9_init_679 : decode cX9_init 679 = .ok (.ldc2_w 48, 3) := by decide +kernel
theorem dX9_init_682 : decode cX9_init 682 = .ok (.goto 5, 3) := by decide +kernel
theorem dX9_init_685 : decode cX9_init 685 = .ok (.iload_n 1, 1) := by decide +kernel
theorem dX9_init_686 : decode cX9_init 686 = .ok (.i2l, 1) := by decide +kernel
theorem dX9_init_687 : decode cX9_init 687 = .ok (.lastore, 1) := by decide +kernel
theorem dX9_init_688 : decode cX9_init 688 = .ok (.iconst 0, 1) := by decide +kernel
theorem dX9_init_689 : decode cX9_init 689 = .ok (.istore_n 2, 1) := by decide +kernel
theorem dX9_init_690 : decode cX9_init 690 = .ok (.iload_n 2, 1) := by decide +kernel
theorem dX9_init_691 : decode cX9_init 691 = .ok (.bipush 16, 2) := by decide +kernel
theorem dX9_init_693 : decode cX9_init 693 = .ok (.if_icmp .ge 24, 3) := by decide +kernel
theorem dX9_init_696 : decode cX9_init 696 = .ok (.aload_n 0, 1) := by decide +kernel
theorem dX9_init_697 : decode cX9_init 697 = .ok (.getfield 7, 3) := by decide +kernel
theorem dX9_init_700 : decode cX9_init 700 = .ok (.bipush 10, 2) := by decide +kernel
theorem dX9_init_702 : decode cX9_init 702 = .ok (.bipush 7, 2) := by decide +kernel
theorem dX9_init_704 : decode cX9_init 704 = .ok (.iload_n 2, 1) := by decide +kernel
theorem dX9_init_705 : decode cX9_init 705 = .ok (.imul, 1) := by decide +kernel
theorem dX9_init_706 : decode cX9_init 706 = .ok (.iadd, 1) := by decide +kernel
theorem dX9_init_707 : decode cX9_init 707 = .ok (.iconst 0, 1) := by decide +kernel
theorem dX9_init_708 : decode cX9_init 708 = .ok (.iadd, 1) := by decide +kernel
theorem dX9_init_709 : decode cX9_init 709 = .ok (.lconst 1, 1) := by decide +kernel
theorem dX9_init_710 : decode cX9_init 710 = .ok (.lastore, 1) := by decide +kernel
theorem dX9_init_711 : decode cX9_init 711 = .ok (.iinc 2 1, 3) := by decide +kernel
theorem dX9_init_714 : decode cX9_init 714 = .ok (.goto (-24), 3) := by decide +kernel
theorem dX9_init_717 : decode cX9_init 717 = .ok (.iconst 0, 1) := by decide +kernel
theorem dX9_init_718 : decode cX9_init 718 = .ok (.istore_n 2, 1) := by decide +kernel
theorem dX9_init_719 : decode cX9_init 719 = .ok (.iload_n 2, 1) := by decide +kernel
theorem dX9_init_720 : decode cX9_init 720 = .ok (.iconst 3, 1) := by decide +kernel
theorem dX9_init_721 : decode cX9_init 721 = .ok (.if_icmp .ge 16, 3) := by decide +kernel
theorem dX9_init_724 : decode cX9_init 724 = .ok (.aload_n 0, 1) := by decide +kernel
theorem dX9_init_725 : decode cX9_init 725 = .ok (.getfield 27, 3) := by decide +kernel
theorem dX9_init_728 : decode cX9_init 728 = .ok (.iload_n 2, 1) := by decide +kernel
theorem dX9_init_729 : decode cX9_init 729 = .ok (.iconst (-1), 1) := by decide +kernel
theorem dX9_init_730 : decode cX9_init 730 = .ok (.iastore, 1) := by decide +kernel
theorem dX9_init_731 : decode cX9_init 731 = .ok (.iinc 2 1, 3) := by decide +kernel
theorem dX9_init_734 : decode cX9_init 734 = .ok (.goto (-15), 3) := by decide +kernel
theorem dX9_init_737 : decode cX9_init 737 = .ok (.aload_n 0, 1) := by decide +kernel
theorem dX9_init_738 : decode cX9_init 738 = .ok (.iconst 0, 1) := by decide +kernel
theorem dX9_init_739 : decode cX9_init 739 = .ok (.invokevirtual 50, 3) := by decide +kernel
theorem dX9_init_742 : decode cX9_init 742 = .ok (.aload_n 0, 1) := by decide +kernel
theorem dX9_init_743 : decode cX9_init 743 = .ok (.invokevirtual 54, 3) := by decide +kernel
theorem dX9_init_746 : decode cX9_init 746 = .ok (.istore_n 2, 1) := by decide +kernel
theorem dX9_init_747 : decode cX9_init 747 = .ok (.aload_n 0, 1) := by decide +kernel
theorem dX9_init_748 : decode cX9_init 748 = .ok (.invokevirtual 58, 3) := by decide +kernel
theorem dX9_init_751 : decode cX9_init 751 = .ok (.return_, 1) := by decide +kernel
theorem dX9_thrown_0 : decode cX9_thrown 0 = .ok (.aload_n 0, 1) := by decide +kernel
theorem dX9_thrown_1 : decode cX9_thrown 1 = .ok (.getfield 61, 3) := by decide +kernel
theorem dX9_thrown_4 : decode cX9_thrown 4 = .ok (.ireturn, 1) := by decide +kernel
theorem dX9_in_0 : decode cX9_in 0 = .ok (.lload_n 0, 1) := by decide +kernel
theorem dX9_in_1 : decode cX9_in 1 = .ok (.lload_n 2, 1) := by decide +kernel
theorem dX9_in_2 : decode cX9_in 2 = .ok (.lcmp, 1) := by decide +kernel
theorem dX9_in_3 : decode cX9_in 3 = .ok (.ifCond .lt 14, 3) := by decide +kernel
theorem dX9_in_6 : decode cX9_in 6 = .ok (.lload_n 0, 1) := by decide +kernel
theorem dX9_in_7 : decode cX9_in 7 = .ok (.lload 4, 2) := by decide +kernel
theorem dX9_in_9 : decode cX9_in 9 = .ok (.lcmp, 1) := by decide +kernel
theorem dX9_in_10 : decode cX9_in 10 = .ok (.ifCond .gt 7, 3) := by decide +kernel
theorem dX9_in_13 : decode cX9_in 13 = .ok (.iconst 1, 1) := by decide +kernel
theorem dX9_in_14 : decode cX9_in 14 = .ok (.goto 4, 3) := by decide +kernel
theorem dX9_in_17 : decode cX9_in 17 = .ok (.iconst 0, 1) := by decide +kernel
theorem dX9_in_18 : decode cX9_in 18 = .ok (.ireturn, 1) := by decide +kernel
theorem dX9_fails_0 : decode cX9_fails 0 = .ok (.aload_n 0, 1) := by decide +kernel
theorem dX9_fails_1 : decode cX9_fails 1 = .ok (.iload_n 1, 1) := by decide +kernel
theorem dX9_fails_2 : decode cX9_fails 2 = .ok (.putfield 61, 3) := by decide +kernel
theorem dX9_fails_5 : decode cX9_fails 5 = .ok (.iconst 0, 1) := by decide +kernel
theorem dX9_fails_6 : decode cX9_fails 6 = .ok (.ireturn, 1) := by decide +kernel
theorem dX9_flow_0 : decode cX9_flow 0 = .ok (.bipush 10, 2) := by decide +kernel
theorem dX9_flow_2 : decode cX9_flow 2 = .ok (.bipush 7, 2) := by decide +kernel
theorem dX9_flow_4 : decode cX9_flow 4 = .ok (.iload_n 0, 1) := by decide +kernel
theorem dX9_flow_5 : decode cX9_flow 5 = .ok (.imul, 1) := by decide +kernel
theorem dX9_flow_6 : decode cX9_flow 6 = .ok (.iadd, 1) := by decide +kernel
theorem dX9_flow_7 : decode cX9_flow 7 = .ok (.ireturn, 1) := by decide +kernel
theorem dX9_node_0 : decode cX9_node 0 = .ok (.sipush 130, 3) := by decide +kernel
theorem dX9_node_3 : decode cX9_node 3 = .ok (.bipush 12, 2) := by decide +kernel
theorem dX9_node_5 : decode cX9_node 5 = .ok (.iload_n 0, 1) := by decide +kernel
theorem dX9_node_6 : decode cX9_node 6 = .ok (.imul, 1) := by decide +kernel
theorem dX9_node_7 : decode cX9_node 7 = .ok (.iadd, 1) := by decide +kernel
theorem dX9_node_8 : decode cX9_node 8 = .ok (.ireturn, 1) := by decide +kernel
theorem dX9_packet_0 : decode cX9_packet 0 = .ok (.sipush 640, 3) := by decide +kernel
theorem dX9_packet_3 : decode cX9_packet 3 = .ok (.bipush 7, 2) := by decide +kernel
theorem dX9_packet_5 : decode cX9_packet 5 = .ok (.iload_n 0, 1) := by decide +kernel
theorem dX9_packet_6 : decode cX9_packet 6 = .ok (.imul, 1) := by decide +kernel
theorem dX9_packet_7 : decode cX9_packet 7 = .ok (.iadd, 1) := by decide +kernel
theorem dX9_packet_8 : decode cX9_packet 8 = .ok (.ireturn, 1) := by decide +kernel
theorem dX9_element_0 : decode cX9_element 0 = .ok (.sipush 4150, 3) := by decide +kernel
theorem dX9_element_3 : decode cX9_element 3 = .ok (.iconst 4, 1) := by decide +kernel
theorem dX9_element_4 : decode cX9_element 4 = .ok (.bipush 64, 2) := by decide +kernel
theorem dX9_element_6 : decode cX9_element 6 = .ok (.iload_n 0, 1) := by decide +kernel
theorem dX9_element_7 : decode cX9_element 7 = .ok (.imul, 1) := by decide +kernel
theorem dX9_element_8 : decode cX9_element 8 = .ok (.iload_n 1, 1) := by decide +kernel
theorem dX9_element_9 : decode cX9_element 9 = .ok (.iadd, 1) := by decide +kernel
theorem dX9_element_10 : decode cX9_element 10 = .ok (.imul, 1) := by decide +kernel
theorem dX9_element_11 : decode cX9_element 11 = .ok (.iadd, 1) := by decide +kernel
theorem dX9_element_12 : decode cX9_element 12 = .ok (.ireturn, 1) := by decide +kernel
theorem dX9_hold_0 : decode cX9_hold 0 = .ok (.sipush 7230, 3) := by decide +kernel
theorem dX9_hold_3 : decode cX9_hold 3 = .ok (.iconst 4, 1) := by decide +kernel
theorem dX9_hold_4 : decode cX9_hold 4 = .ok (.iload_n 0, 1) := by decide +kernel
theorem dX9_hold_5 : decode cX9_hold 5 = .ok (.imul, 1) := by decide +kernel
theorem dX9_hold_6 : decode cX9_hold 6 = .ok (.iadd, 1) := by decide +kernel
theorem dX9_hold_7 : decode cX9_hold 7 = .ok (.ireturn, 1) := by decide +kernel
theorem dX9_takesText_0 : decode cX9_takesText 0 = .ok (.iconst 0, 1) := by decide +kernel
theorem dX9_takesText_1 : decode cX9_takesText 1 = .ok (.istore_n 1, 1) := by decide +kernel
theorem dX9_takesText_2 : decode cX9_takesText 2 = .ok (.iload_n 1, 1) := by decide +kernel
theorem dX9_takesText_3 : decode cX9_takesText 3 = .ok (.aload_n 0, 1) := by decide +kernel
theorem dX9_takesText_4 : decode cX9_takesText 4 = .ok (.getfield 65, 3) := by decide +kernel
theorem dX9_takesText_7 : decode cX9_takesText 7 = .ok (.if_icmp .ge 21, 3) := by decide +kernel
theorem dX9_takesText_10 : decode cX9_takesText 10 = .ok (.aload_n 0, 1) := by decide +kernel
theorem dX9_takesText_11 : decode cX9_takesText 11 = .ok (.getfield 30, 3) := by decide +kernel
theorem dX9_takesText_14 : decode cX9_takesText 14 = .ok (.iload_n 1, 1) := by decide +kernel
theorem dX9_takesText_15 : decode cX9_takesText 15 = .ok (.aload_n 0, 1) := by decide +kernel
theorem dX9_takesText_16 : decode cX9_takesText 16 = .ok (.getfield 23, 3) := by decide +kernel
theorem dX9_takesText_19 : decode cX9_takesText 19 = .ok (.iload_n 1, 1) := by decide +kernel
theorem dX9_takesText_20 : decode cX9_takesText 20 = .ok (.iaload, 1) := by decide +kernel
theorem dX9_takesText_21 : decode cX9_takesText 21 = .ok (.iastore, 1) := by decide +kernel
theorem dX9_takesText_22 : decode cX9_takesText 22 = .ok (.iinc 1 1, 3) := by decide +kernel
theorem dX9_takesText_25 : decode cX9_takesText 25 = .ok (.goto (-23), 3) := by decide +kernel
theorem dX9_takesText_28 : decode cX9_takesText 28 = .ok (.aload_n 0, 1) := by decide +kernel
theorem dX9_takesText_29 : decode cX9_takesText 29 = .ok (.aload_n 0, 1) := by decide +kernel
theorem dX9_takesText_30 : decode cX9_takesText 30 = .ok (.getfield 65, 3) := by decide +kernel
theorem dX9_takesText_33 : decode cX9_takesText 33 = .ok (.putfield 68, 3) := by decide +kernel
theorem dX9_takesText_36 : decode cX9_takesText 36 = .ok (.return_, 1) := by decide +kernel
theorem dX9_takesTemplate_0 : decode cX9_takesTemplate 0 = .ok (.iconst 0, 1) := by decide +kernel
theorem dX9_takesTemplate_1 : decode cX9_takesTemplate 1 = .ok (.istore_n 2, 1) := by decide +kernel
theorem dX9_takesTemplate_2 : decode cX9_takesTemplate 2 = .ok (.aload_n 0, 1) := by decide +kernel
theorem dX9_takesTemplate_3 : decode cX9_takesTemplate 3 = .ok (.iconst 0, 1) := by decide +kernel
theorem dX9_takesTemplate_4 : decode cX9_takesTemplate 4 = .ok (.putfield 68, 3) := by decide +kernel
theorem dX9_takesTemplate_7 : decode cX9_takesTemplate 7 = .ok (.iconst 0, 1) := by decide +kernel
theorem dX9_takesTemplate_8 : decode cX9_takesTemplate 8 = .ok (.istore_n 3, 1) := by decide +kernel
theorem dX9_takesTemplate_9 : decode cX9_takesTemplate 9 = .ok (.iload_n 3, 1) := by decide +kernel
theorem dX9_takesTemplate_10 : decode cX9_takesTemplate 10 = .ok (.aload_n 0, 1) := by decide +kernel
theorem dX9_takesTemplate_11 : decode cX9_takesTemplate 11 = .ok (.getfield 19, 3) := by decide +kernel
theorem dX9_takesTemplate_14 : decode cX9_takesTemplate 14 = .ok (.arraylength, 1) := by decide +kernel
theorem dX9_takesTemplate_15 : decode cX9_takesTemplate 15 = .ok (.if_icmp .ge 56, 3) := by decide +kernel
theorem dX9_takesTemplate_18 : decode cX9_takesTemplate 18 = .ok (.aload_n 0, 1) := by decide +kernel
theorem dX9_takesTemplate_19 : decode cX9_takesTemplate 19 = .ok (.getfield 19, 3) := by decide +kernel
theorem dX9_takesTemplate_22 : decode cX9_takesTemplate 22 = .ok (.iload_n 3, 1) := by decide +kernel
theorem dX9_takesTemplate_23 : decode cX9_takesTemplate 23 = .ok (.caload, 1) := by decide +kernel
theorem dX9_takesTemplate_24 : decode cX9_takesTemplate 24 = .ok (.bipush 32, 2) := by decide +kernel
theorem dX9_takesTemplate_26 : decode cX9_takesTemplate 26 = .ok (.if_icmp .ne 9, 3) := by decide +kernel
theorem dX9_takesTemplate_29 : decode cX9_takesTemplate 29 = .ok (.iinc 2 1, 3) := by decide +kernel
theorem dX9_takesTemplate_32 : decode cX9_takesTemplate 32 = .ok (.goto 33, 3) := by decide +kernel
theorem dX9_takesTemplate_35 : decode cX9_takesTemplate 35 = .ok (.iload_n 2, 1) := by decide +kernel
theorem dX9_takesTemplate_36 : decode cX9_takesTemplate 36 = .ok (.iload_n 1, 1) := by decide +kernel
theorem dX9_takesTemplate_37 : decode cX9_takesTemplate 37 = .ok (.if_icmp .ne 28, 3) := by decide +kernel
theorem dX9_takesTemplate_40 : decode cX9_takesTemplate 40 = .ok (.aload_n 0, 1) := by decide +kernel
theorem dX9_takesTemplate_41 : decode cX9_takesTemplate 41 = .ok (.getfield 30, 3) := by decide +kernel
theorem dX9_takesTemplate_44 : decode cX9_takesTemplate 44 = .ok (.aload_n 0, 1) := by decide +kernel
theorem dX9_takesTemplate_45 : decode cX9_takesTemplate 45 = .ok (.getfield 68, 3) := by decide +kernel
theorem dX9_takesTemplate_48 : decode cX9_takesTemplate 48 = .ok (.aload_n 0, 1) := by decide +kernel
theorem dX9_takesTemplate_49 : decode cX9_takesTemplate 49 = .ok (.getfield 19, 3) := by decide +kernel
theorem dX9_takesTemplate_52 : decode cX9_takesTemplate 52 = .ok (.iload_n 3, 1) := by decide +kernel
theorem dX9_takesTemplate_53 : decode cX9_takesTemplate 53 = .ok (.caload, 1) := by decide +kernel
theorem dX9_takesTemplate_54 : decode cX9_takesTemplate 54 = .ok (.iastore, 1) := by decide +kernel
theorem dX9_takesTemplate_55 : decode cX9_takesTemplate 55 = .ok (.aload_n 0, 1) := by decide +kernel
theorem dX9_takesTemplate_56 : decode cX9_takesTemplate 56 = .ok (.dup, 1) := by decide +kernel
theorem dX9_takesTemplate_57 : decode cX9_takesTemplate 57 = .ok (.getfield 68, 3) := by decide +kernel
theorem dX9_takesTemplate_60 : decode cX9_takesTemplate 60 = .ok (.iconst 1, 1) := by decide +kernel
theorem dX9_takesTemplate_61 : decode cX9_takesTemplate 61 = .ok (.iadd, 1) := by decide +kernel
theorem dX9_takesTemplate_62 : decode cX9_takesTemplate 62 = .ok (.putfield 68, 3) := by decide +kernel
theorem dX9_takesTemplate_65 : decode cX9_takesTemplate 65 = .ok (.iinc 3 1, 3) := by decide +kernel
theorem dX9_takesTemplate_68 : decode cX9_takesTemplate 68 = .ok (.goto (-59), 3) := by decide +kernel
theorem dX9_takesTemplate_71 : decode cX9_takesTemplate 71 = .ok (.return_, 1) := by decide +kernel
theorem dX9_letter_0 : decode cX9_letter 0 = .ok (.iload_n 1, 1) := by decide +kernel
theorem dX9_letter_1 : decode cX9_letter 1 = .ok (.aload_n 0, 1) := by decide +kernel
theorem dX9_letter_2 : decode cX9_letter 2 = .ok (.getfield 68, 3) := by decide +kernel
theorem dX9_letter_5 : decode cX9_letter 5 = .ok (.if_icmp .ge 12, 3) := by decide +kernel
theorem dX9_letter_8 : decode cX9_letter 8 = .ok (.aload_n 0, 1) := by decide +kernel
theorem dX9_letter_9 : decode cX9_letter 9 = .ok (.getfield 30, 3) := by decide +kernel
theorem dX9_letter_12 : decode cX9_letter 12 = .ok (.iload_n 1, 1) := by decide +kernel
theorem dX9_letter_13 : decode cX9_letter 13 = .ok (.iaload, 1) := by decide +kernel
theorem dX9_letter_14 : decode cX9_letter 14 = .ok (.goto 4, 3) := by decide +kernel
theorem dX9_letter_17 : decode cX9_letter 17 = .ok (.iconst (-1), 1) := by decide +kernel
theorem dX9_letter_18 : decode cX9_letter 18 = .ok (.ireturn, 1) := by decide +kernel
theorem dX9_isDigit_0 : decode cX9_isDigit 0 = .ok (.aload_n 0, 1) := by decide +kernel
theorem dX9_isDigit_1 : decode cX9_isDigit 1 = .ok (.iload_n 1, 1) := by decide +kernel
theorem dX9_isDigit_2 : decode cX9_isDigit 2 = .ok (.invokevirtual 71, 3) := by decide +kernel
theorem dX9_isDigit_5 : decode cX9_isDigit 5 = .ok (.i2l, 1) := by decide +kernel
theorem dX9_isDigit_6 : decode cX9_isDigit 6 = .ok (.ldc2_w 75, 3) := by decide +kernel
theorem dX9_isDigit_9 : decode cX9_isDigit 9 = .ok (.ldc2_w 77, 3) := by decide +kernel
theorem dX9_isDigit_12 : decode cX9_isDigit 12 = .ok (.invokestatic 79, 3) := by decide +kernel
theorem dX9_isDigit_15 : decode cX9_isDigit 15 = .ok (.ireturn, 1) := by decide +kernel
theorem dX9_wrong_0 : decode cX9_wrong 0 = .ok (.aload_n 0, 1) := by decide +kernel
theorem dX9_wrong_1 : decode cX9_wrong 1 = .ok (.getfield 27, 3) := by decide +kernel
theorem dX9_wrong_4 : decode cX9_wrong 4 = .ok (.iconst 0, 1) := by decide +kernel
theorem dX9_wrong_5 : decode cX9_wrong 5 = .ok (.iload_n 1, 1) := by decide +kernel
theorem dX9_wrong_6 : decode cX9_wrong 6 = .ok (.iastore, 1) := by decide +kernel
theorem dX9_wrong_7 : decode cX9_wrong 7 = .ok (.aload_n 0, 1) := by decide +kernel
theorem dX9_wrong_8 : decode cX9_wrong 8 = .ok (.getfield 27, 3) := by decide +kernel
theorem dX9_wrong_11 : decode cX9_wrong 11 = .ok (.iconst 1, 1) := by decide +kernel
theorem dX9_wrong_12 : decode cX9_wrong 12 = .ok (.iload_n 2, 1) := by decide +kernel
theorem dX9_wrong_13 : decode cX9_wrong 13 = .ok (.iastore, 1) := by decide +kernel
theorem dX9_wrong_14 : decode cX9_wrong 14 = .ok (.aload_n 0, 1) := by decide +kernel
theorem dX9_wrong_15 : decode cX9_wrong 15 = .ok (.getfield 27, 3) := by decide +kernel
theorem dX9_wrong_18 : decode cX9_wrong 18 = .ok (.iconst 2, 1) := by decide +kernel
theorem dX9_wrong_19 : decode cX9_wrong 19 = .ok (.iload_n 3, 1) := by decide +kernel
theorem dX9_wrong_20 : decode cX9_wrong 20 = .ok (.iastore, 1) := by decide +kernel
theorem dX9_wrong_21 : decode cX9_wrong 21 = .ok (.iconst (-1), 1) := by decide +kernel
theorem dX9_wrong_22 : decode cX9_wrong 22 = .ok (.ireturn, 1) := by decide +kernel
theorem dX9_emits_0 : decode cX9_emits 0 = .ok (.aload_n 0, 1) := by decide +kernel
theorem dX9_emits_1 : decode cX9_emits 1 = .ok (.getfield 36, 3) := by decide +kernel
theorem dX9_emits_4 : decode cX9_emits 4 = .ok (.aload_n 0, 1) := by decide +kernel
theorem dX9_emits_5 : decode cX9_emits 5 = .ok (.getfield 83, 3) := by decide +kernel
theorem dX9_emits_8 : decode cX9_emits 8 = .ok (.lload_n 1, 1) := by decide +kernel
theorem dX9_emits_9 : decode cX9_emits 9 = .ok (.lastore, 1) := by decide +kernel
theorem dX9_emits_10 : decode cX9_emits 10 = .ok (.aload_n 0, 1) := by decide +kernel
theorem dX9_emits_11 : decode cX9_emits 11 = .ok (.dup, 1) := by decide +kernel
theorem dX9_emits_12 : decode cX9_emits 12 = .ok (.getfield 83, 3) := by decide +kernel
theorem dX9_emits_15 : decode cX9_emits 15 = .ok (.iconst 1, 1) := by decide +kernel
theorem dX9_emits_16 : decode cX9_emits 16 = .ok (.iadd, 1) := by decide +kernel
theorem dX9_emits_17 : decode cX9_emits 17 = .ok (.putfield 83, 3) := by decide +kernel
theorem dX9_emits_20 : decode cX9_emits 20 = .ok (.return_, 1) := by decide +kernel
theorem dX9_isOpen_0 : decode cX9_isOpen 0 = .ok (.iload_n 0, 1) := by decide +kernel
theorem dX9_isOpen_1 : decode cX9_isOpen 1 = .ok (.bipush 40, 2) := by decide +kernel
theorem dX9_isOpen_3 : decode cX9_isOpen 3 = .ok (.if_icmp .eq 27, 3) := by decide +kernel
theorem dX9_isOpen_6 : decode cX9_isOpen 6 = .ok (.iload_n 0, 1) := by decide +kernel
theorem dX9_isOpen_7 : decode cX9_isOpen 7 = .ok (.bipush 77, 2) := by decide +kernel
theorem dX9_isOpen_9 : decode cX9_isOpen 9 = .ok (.if_icmp .eq 21, 3) := by decide +kernel
theorem dX9_isOpen_12 : decode cX9_isOpen 12 = .ok (.iload_n 0, 1) := by decide +kernel
theorem dX9_isOpen_13 : decode cX9_isOpen 13 = .ok (.bipush 109, 2) := by decide +kernel
theorem dX9_isOpen_15 : decode cX9_isOpen 15 = .ok (.if_icmp .eq 15, 3) := by decide +kernel
theorem dX9_isOpen_18 : decode cX9_isOpen 18 = .ok (.iload_n 0, 1) := by decide +kernel
theorem dX9_isOpen_19 : decode cX9_isOpen 19 = .ok (.bipush 88, 2) := by decide +kernel
theorem dX9_isOpen_21 : decode cX9_isOpen 21 = .ok (.if_icmp .eq 9, 3) := by decide +kernel
theorem dX9_isOpen_24 : decode cX9_isOpen 24 = .ok (.iload_n 0, 1) := by decide +kernel
theorem dX9_isOpen_25 : decode cX9_isOpen 25 = .ok (.bipush 120, 2) := by decide +kernel
theorem dX9_isOpen_27 : decode cX9_isOpen 27 = .ok (.if_icmp .ne 7, 3) := by decide +kernel
theorem dX9_isOpen_30 : decode cX9_isOpen 30 = .ok (.iconst 1, 1) := by decide +kernel
theorem dX9_isOpen_31 : decode cX9_isOpen 31 = .ok (.goto 4, 3) := by decide +kernel
theorem dX9_isOpen_34 : decode cX9_isOpen 34 = .ok (.iconst 0, 1) := by decide +kernel
theorem dX9_isOpen_35 : decode cX9_isOpen 35 = .ok (.ireturn, 1) := by decide +kernel
theorem dX9_strength_0 : decode cX9_strength 0 = .ok (.iload_n 0, 1) := by decide +kernel
theorem dX9_strength_1 : decode cX9_strength 1 = .ok (.bipush 43, 2) := by decide +kernel
theorem dX9_strength_3 : decode cX9_strength 3 = .ok (.if_icmp .eq 9, 3) := by decide +kernel
theorem dX9_strength_6 : decode cX9_strength 6 = .ok (.iload_n 0, 1) := by decide +kernel
theorem dX9_strength_7 : decode cX9_strength 7 = .ok (.bipush 45, 2) := by decide +kernel
theorem dX9_strength_9 : decode cX9_strength 9 = .ok (.if_icmp .ne 7, 3) := by decide +kernel
theorem dX9_strength_12 : decode cX9_strength 12 = .ok (.iconst 1, 1) := by decide +kernel
theorem dX9_strength_13 : decode cX9_strength 13 = .ok (.goto 4, 3) := by decide +kernel
theorem dX9_strength_16 : decode cX9_strength 16 = .ok (.iconst 2, 1) := by decide +kernel
theorem dX9_strength_17 : decode cX9_strength 17 = .ok (.ireturn, 1) := by decide +kernel
theorem dX9_stepOf_0 : decode cX9_stepOf 0 = .ok (.iload_n 0, 1) := by decide +kernel
theorem dX9_stepOf_1 : decode cX9_stepOf 1 = .ok (.bipush 43, 2) := by decide +kernel
theorem dX9_stepOf_3 : decode cX9_stepOf 3 = .ok (.if_icmp .ne 9, 3) := by decide +kernel
theorem dX9_stepOf_6 : decode cX9_stepOf 6 = .ok (.ldc2_w 86, 3) := by decide +kernel
theorem dX9_stepOf_9 : decode cX9_stepOf 9 = .ok (.goto 66, 3) := by decide +kernel
theorem dX9_stepOf_12 : decode cX9_stepOf 12 = .ok (.iload_n 0, 1) := by decide +kernel
theorem dX9_stepOf_13 : decode cX9_stepOf 13 = .ok (.bipush 45, 2) := by decide +kernel
theorem dX9_stepOf_15 : decode cX9_stepOf 15 = .ok (.if_icmp .ne 9, 3) := by decide +kernel
theorem dX9_stepOf_18 : decode cX9_stepOf 18 = .ok (.ldc2_w 88, 3) := by decide +kernel
theorem dX9_stepOf_21 : decode cX9_stepOf 21 = .ok (.goto 54, 3) := by decide +kernel
theorem dX9_stepOf_24 : decode cX9_stepOf 24 = .ok (.iload_n 0, 1) := by decide +kernel
theorem dX9_stepOf_25 : decode cX9_stepOf 25 = .ok (.bipush 42, 2) := by decide +kernel
theorem dX9_stepOf_27 : decode cX9_stepOf 27 = .ok (.if_icmp .ne 9, 3) := by decide +kernel
theorem dX9_stepOf_30 : decode cX9_stepOf 30 = .ok (.ldc2_w 90, 3) := by decide +kernel
theorem dX9_stepOf_33 : decode cX9_stepOf 33 = .ok (.goto 42, 3) := by decide +kernel
theorem dX9_stepOf_36 : decode cX9_stepOf 36 = .ok (.iload_n 0, 1) := by decide +kernel
theorem dX9_stepOf_37 : decode cX9_stepOf 37 = .ok (.bipush 47, 2) := by decide +kernel
theorem dX9_stepOf_39 : decode cX9_stepOf 39 = .ok (.if_icmp .ne 9, 3) := by decide +kernel
theorem dX9_stepOf_42 : decode cX9_stepOf 42 = .ok (.ldc2_w 92, 3) := by decide +kernel
theorem dX9_stepOf_45 : decode cX9_stepOf 45 = .ok (.goto 30, 3) := by decide +kernel
theorem dX9_stepOf_48 : decode cX9_stepOf 48 = .ok (.iload_n 0, 1) := by decide +kernel
theorem dX9_stepOf_49 : decode cX9_stepOf 49 = .ok (.bipush 117, 2) := by decide +kernel
theorem dX9_stepOf_51 : decode cX9_stepOf 51 = .ok (.if_icmp .ne 9, 3) := by decide +kernel
theorem dX9_stepOf_54 : decode cX9_stepOf 54 = .ok (.ldc2_w 94, 3) := by decide +kernel
theorem dX9_stepOf_57 : decode cX9_stepOf 57 = .ok (.goto 18, 3) := by decide +kernel
theorem dX9_stepOf_60 : decode cX9_stepOf 60 = .ok (.iload_n 0, 1) := by decide +kernel
theorem dX9_stepOf_61 : decode cX9_stepOf 61 = .ok (.bipush 88, 2) := by decide +kernel
theorem dX9_stepOf_63 : decode cX9_stepOf 63 = .ok (.if_icmp .ne 9, 3) := by decide +kernel
theorem dX9_stepOf_66 : decode cX9_stepOf 66 = .ok (.ldc2_w 96, 3) := by decide +kernel
