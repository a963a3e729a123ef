theorem dX6_orderAt_0 : decode cX6_orderAt 0 = .ok (.iload_n 1, 1) := by decide +kernel
theorem dX6_orderAt_1 : decode cX6_orderAt 1 = .ok (.ifCond .lt 8, 3) := by decide +kernel
theorem dX6_orderAt_4 : decode cX6_orderAt 4 = .ok (.iload_n 1, 1) := by decide +kernel
theorem dX6_orderAt_5 : decode cX6_orderAt 5 = .ok (.iconst 4, 1) := by decide +kernel
theorem dX6_orderAt_6 : decode cX6_orderAt 6 = .ok (.if_icmp .lt 14, 3) := by decide +kernel
theorem dX6_orderAt_9 : decode cX6_orderAt 9 = .ok (.new 199, 3) := by decide +kernel
theorem dX6_orderAt_12 : decode cX6_orderAt 12 = .ok (.dup, 1) := by decide +kernel
theorem dX6_orderAt_13 : decode cX6_orderAt 13 = .ok (.ldc_w 279, 3) := by decide +kernel
theorem dX6_orderAt_16 : decode cX6_orderAt 16 = .ok (.invokespecial 203, 3) := by decide +kernel
theorem dX6_orderAt_19 : decode cX6_orderAt 19 = .ok (.athrow, 1) := by decide +kernel
theorem dX6_orderAt_20 : decode cX6_orderAt 20 = .ok (.aload_n 0, 1) := by decide +kernel
theorem dX6_orderAt_21 : decode cX6_orderAt 21 = .ok (.getfield 11, 3) := by decide +kernel
theorem dX6_orderAt_24 : decode cX6_orderAt 24 = .ok (.iload_n 1, 1) := by decide +kernel
theorem dX6_orderAt_25 : decode cX6_orderAt 25 = .ok (.aaload, 1) := by decide +kernel
theorem dX6_orderAt_26 : decode cX6_orderAt 26 = .ok (.areturn, 1) := by decide +kernel
theorem dX6_nexts_0 : decode cX6_nexts 0 = .ok (.aload_n 0, 1) := by decide +kernel
theorem dX6_nexts_1 : decode cX6_nexts 1 = .ok (.iload_n 1, 1) := by decide +kernel
theorem dX6_nexts_2 : decode cX6_nexts 2 = .ok (.invokevirtual 48, 3) := by decide +kernel
theorem dX6_nexts_5 : decode cX6_nexts 5 = .ok (.invokevirtual 143, 3) := by decide +kernel
theorem dX6_nexts_8 : decode cX6_nexts 8 = .ok (.ireturn, 1) := by decide +kernel
theorem dX6_orderWith_0 : decode cX6_orderWith 0 = .ok (.aload_n 0, 1) := by decide +kernel
theorem dX6_orderWith_1 : decode cX6_orderWith 1 = .ok (.iload_n 1, 1) := by decide +kernel
theorem dX6_orderWith_2 : decode cX6_orderWith 2 = .ok (.invokevirtual 48, 3) := by decide +kernel
theorem dX6_orderWith_5 : decode cX6_orderWith 5 = .ok (.astore_n 3, 1) := by decide +kernel
theorem dX6_orderWith_6 : decode cX6_orderWith 6 = .ok (.aload_n 3, 1) := by decide +kernel
theorem dX6_orderWith_7 : decode cX6_orderWith 7 = .ok (.iload_n 2, 1) := by decide +kernel
theorem dX6_orderWith_8 : decode cX6_orderWith 8 = .ok (.invokevirtual 281, 3) := by decide +kernel
theorem dX6_orderWith_11 : decode cX6_orderWith 11 = .ok (.ifCond .ne 14, 3) := by decide +kernel
theorem dX6_orderWith_14 : decode cX6_orderWith 14 = .ok (.new 199, 3) := by decide +kernel
theorem dX6_orderWith_17 : decode cX6_orderWith 17 = .ok (.dup, 1) := by decide +kernel
theorem dX6_orderWith_18 : decode cX6_orderWith 18 = .ok (.ldc_w 284, 3) := by decide +kernel
theorem dX6_orderWith_21 : decode cX6_orderWith 21 = .ok (.invokespecial 203, 3) := by decide +kernel
theorem dX6_orderWith_24 : decode cX6_orderWith 24 = .ok (.athrow, 1) := by decide +kernel
theorem dX6_orderWith_25 : decode cX6_orderWith 25 = .ok (.aload_n 3, 1) := by decide +kernel
theorem dX6_orderWith_26 : decode cX6_orderWith 26 = .ok (.areturn, 1) := by decide +kernel
theorem dX6_upper_0 : decode cX6_upper 0 = .ok (.aload_n 0, 1) := by decide +kernel
theorem dX6_upper_1 : decode cX6_upper 1 = .ok (.iload_n 1, 1) := by decide +kernel
theorem dX6_upper_2 : decode cX6_upper 2 = .ok (.iload_n 2, 1) := by decide +kernel
theorem dX6_upper_3 : decode cX6_upper 3 = .ok (.invokevirtual 84, 3) := by decide +kernel
theorem dX6_upper_6 : decode cX6_upper 6 = .ok (.iload_n 2, 1) := by decide +kernel
theorem dX6_upper_7 : decode cX6_upper 7 = .ok (.invokevirtual 152, 3) := by decide +kernel
theorem dX6_upper_10 : decode cX6_upper 10 = .ok (.ireturn, 1) := by decide +kernel
theorem dX6_rowsAt_0 : decode cX6_rowsAt 0 = .ok (.aload_n 0, 1) := by decide +kernel
theorem dX6_rowsAt_1 : decode cX6_rowsAt 1 = .ok (.iload_n 1, 1) := by decide +kernel
theorem dX6_rowsAt_2 : decode cX6_rowsAt 2 = .ok (.iload_n 2, 1) := by decide +kernel
theorem dX6_rowsAt_3 : decode cX6_rowsAt 3 = .ok (.invokevirtual 84, 3) := by decide +kernel
theorem dX6_rowsAt_6 : decode cX6_rowsAt 6 = .ok (.astore 4, 2) := by decide +kernel
theorem dX6_rowsAt_8 : decode cX6_rowsAt 8 = .ok (.aload_n 0, 1) := by decide +kernel
theorem dX6_rowsAt_9 : decode cX6_rowsAt 9 = .ok (.getfield 30, 3) := by decide +kernel
theorem dX6_rowsAt_12 : decode cX6_rowsAt 12 = .ok (.aload 4, 2) := by decide +kernel
theorem dX6_rowsAt_14 : decode cX6_rowsAt 14 = .ok (.invokevirtual 240, 3) := by decide +kernel
theorem dX6_rowsAt_17 : decode cX6_rowsAt 17 = .ok (.pop, 1) := by decide +kernel
theorem dX6_rowsAt_18 : decode cX6_rowsAt 18 = .ok (.aload_n 0, 1) := by decide +kernel
theorem dX6_rowsAt_19 : decode cX6_rowsAt 19 = .ok (.getfield 30, 3) := by decide +kernel
theorem dX6_rowsAt_22 : decode cX6_rowsAt 22 = .ok (.aload 4, 2) := by decide +kernel
theorem dX6_rowsAt_24 : decode cX6_rowsAt 24 = .ok (.iload_n 2, 1) := by decide +kernel
theorem dX6_rowsAt_25 : decode cX6_rowsAt 25 = .ok (.iload_n 3, 1) := by decide +kernel
theorem dX6_rowsAt_26 : decode cX6_rowsAt 26 = .ok (.invokevirtual 246, 3) := by decide +kernel
theorem dX6_rowsAt_29 : decode cX6_rowsAt 29 = .ok (.ireturn, 1) := by decide +kernel
theorem dX6_refuseOddValue_0 : decode cX6_refuseOddValue 0 = .ok (.iload_n 0, 1) := by decide +kernel
theorem dX6_refuseOddValue_1 : decode cX6_refuseOddValue 1 = .ok (.sipush (-1000), 3) := by decide +kernel
theorem dX6_refuseOddValue_4 : decode cX6_refuseOddValue 4 = .ok (.if_icmp .lt 10, 3) := by decide +kernel
theorem dX6_refuseOddValue_7 : decode cX6_refuseOddValue 7 = .ok (.iload_n 0, 1) := by decide +kernel
theorem dX6_refuseOddValue_8 : decode cX6_refuseOddValue 8 = .ok (.sipush 1000, 3) := by decide +kernel
theorem dX6_refuseOddValue_11 : decode cX6_refuseOddValue 11 = .ok (.if_icmp .le 14, 3) := by decide +kernel
theorem dX6_refuseOddValue_14 : decode cX6_refuseOddValue 14 = .ok (.new 216, 3) := by decide +kernel
theorem dX6_refuseOddValue_17 : decode cX6_refuseOddValue 17 = .ok (.dup, 1) := by decide +kernel
theorem dX6_refuseOddValue_18 : decode cX6_refuseOddValue 18 = .ok (.ldc_w 293, 3) := by decide +kernel
theorem dX6_refuseOddValue_21 : decode cX6_refuseOddValue 21 = .ok (.invokespecial 220, 3) := by decide +kernel
theorem dX6_refuseOddValue_24 : decode cX6_refuseOddValue 24 = .ok (.athrow, 1) := by decide +kernel
theorem dX6_refuseOddValue_25 : decode cX6_refuseOddValue 25 = .ok (.return_, 1) := by decide +kernel
theorem dX6_add_0 : decode cX6_add 0 = .ok (.aload_n 0, 1) := by decide +kernel
theorem dX6_add_1 : decode cX6_add 1 = .ok (.iload_n 1, 1) := by decide +kernel
theorem dX6_add_2 : decode cX6_add 2 = .ok (.invokevirtual 48, 3) := by decide +kernel
theorem dX6_add_5 : decode cX6_add 5 = .ok (.astore_n 3, 1) := by decide +kernel
theorem dX6_add_6 : decode cX6_add 6 = .ok (.iload_n 2, 1) := by decide +kernel
theorem dX6_add_7 : decode cX6_add 7 = .ok (.invokestatic 70, 3) := by decide +kernel
theorem dX6_add_10 : decode cX6_add 10 = .ok (.aload_n 3, 1) := by decide +kernel
theorem dX6_add_11 : decode cX6_add 11 = .ok (.getfield 56, 3) := by decide +kernel
theorem dX6_add_14 : decode cX6_add 14 = .ok (.bipush 9, 2) := by decide +kernel
theorem dX6_add_16 : decode cX6_add 16 = .ok (.if_icmp .lt 13, 3) := by decide +kernel
theorem dX6_add_19 : decode cX6_add 19 = .ok (.new 73, 3) := by decide +kernel
theorem dX6_add_22 : decode cX6_add 22 = .ok (.dup, 1) := by decide +kernel
theorem dX6_add_23 : decode cX6_add 23 = .ok (.ldc 75, 2) := by decide +kernel
theorem dX6_add_25 : decode cX6_add 25 = .ok (.invokespecial 77, 3) := by decide +kernel
theorem dX6_add_28 : decode cX6_add 28 = .ok (.athrow, 1) := by decide +kernel
theorem dX6_add_29 : decode cX6_add 29 = .ok (.aload_n 3, 1) := by decide +kernel
theorem dX6_add_30 : decode cX6_add 30 = .ok (.iload_n 2, 1) := by decide +kernel
theorem dX6_add_31 : decode cX6_add 31 = .ok (.invokevirtual 80, 3) := by decide +kernel
theorem dX6_add_34 : decode cX6_add 34 = .ok (.ireturn, 1) := by decide +kernel
theorem dX6_value_0 : decode cX6_value 0 = .ok (.aload_n 0, 1) := by decide +kernel
theorem dX6_value_1 : decode cX6_value 1 = .ok (.iload_n 1, 1) := by decide +kernel
theorem dX6_value_2 : decode cX6_value 2 = .ok (.iload_n 2, 1) := by decide +kernel
theorem dX6_value_3 : decode cX6_value 3 = .ok (.invokevirtual 84, 3) := by decide +kernel
theorem dX6_value_6 : decode cX6_value 6 = .ok (.getfield 88, 3) := by decide +kernel
theorem dX6_value_9 : decode cX6_value 9 = .ok (.iload_n 2, 1) := by decide +kernel
theorem dX6_value_10 : decode cX6_value 10 = .ok (.iaload, 1) := by decide +kernel
theorem dX6_value_11 : decode cX6_value 11 = .ok (.ireturn, 1) := by decide +kernel
theorem dX6_orderWithBoth_0 : decode cX6_orderWithBoth 0 = .ok (.aload_n 0, 1) := by decide +kernel
theorem dX6_orderWithBoth_1 : decode cX6_orderWithBoth 1 = .ok (.iload_n 1, 1) := by decide +kernel
theorem dX6_orderWithBoth_2 : decode cX6_orderWithBoth 2 = .ok (.iload_n 2, 1) := by decide +kernel
theorem dX6_orderWithBoth_3 : decode cX6_orderWithBoth 3 = .ok (.invokevirtual 84, 3) := by decide +kernel
theorem dX6_orderWithBoth_6 : decode cX6_orderWithBoth 6 = .ok (.astore 4, 2) := by decide +kernel
theorem dX6_orderWithBoth_8 : decode cX6_orderWithBoth 8 = .ok (.aload 4, 2) := by decide +kernel
theorem dX6_orderWithBoth_10 : decode cX6_orderWithBoth 10 = .ok (.iload_n 3, 1) := by decide +kernel
theorem dX6_orderWithBoth_11 : decode cX6_orderWithBoth 11 = .ok (.invokevirtual 281, 3) := by decide +kernel
theorem dX6_orderWithBoth_14 : decode cX6_orderWithBoth 14 = .ok (.ifCond .ne 14, 3) := by decide +kernel
theorem dX6_orderWithBoth_17 : decode cX6_orderWithBoth 17 = .ok (.new 199, 3) := by decide +kernel
theorem dX6_orderWithBoth_20 : decode cX6_orderWithBoth 20 = .ok (.dup, 1) := by decide +kernel
theorem dX6_orderWithBoth_21 : decode cX6_orderWithBoth 21 = .ok (.ldc_w 284, 3) := by decide +kernel
theorem dX6_orderWithBoth_24 : decode cX6_orderWithBoth 24 = .ok (.invokespecial 203, 3) := by decide +kernel
theorem dX6_orderWithBoth_27 : decode cX6_orderWithBoth 27 = .ok (.athrow, 1) := by decide +kernel
theorem dX6_orderWithBoth_28 : decode cX6_orderWithBoth 28 = .ok (.aload 4, 2) := by decide +kernel
theorem dX6_orderWithBoth_30 : decode cX6_orderWithBoth 30 = .ok (.areturn, 1) := by decide +kernel
theorem dX6_loose_0 : decode cX6_loose 0 = .ok (.aload_n 0, 1) := by decide +kernel
theorem dX6_loose_1 : decode cX6_loose 1 = .ok (.iload_n 1, 1) := by decide +kernel
theorem dX6_loose_2 : decode cX6_loose 2 = .ok (.iload_n 2, 1) := by decide +kernel
theorem dX6_loose_3 : decode cX6_loose 3 = .ok (.iload_n 3, 1) := by decide +kernel
theorem dX6_loose_4 : decode cX6_loose 4 = .ok (.invokevirtual 101, 3) := by decide +kernel
theorem dX6_loose_7 : decode cX6_loose 7 = .ok (.astore 4, 2) := by decide +kernel
theorem dX6_loose_9 : decode cX6_loose 9 = .ok (.aload 4, 2) := by decide +kernel
theorem dX6_loose_11 : decode cX6_loose 11 = .ok (.iload_n 2, 1) := by decide +kernel
theorem dX6_loose_12 : decode cX6_loose 12 = .ok (.iload_n 3, 1) := by decide +kernel
theorem dX6_loose_13 : decode cX6_loose 13 = .ok (.invokevirtual 109, 3) := by decide +kernel
theorem dX6_loose_16 : decode cX6_loose 16 = .ok (.ifCond .ne 6, 3) := by decide +kernel
theorem dX6_loose_19 : decode cX6_loose 19 = .ok (.bipush (-9), 2) := by decide +kernel
theorem dX6_loose_21 : decode cX6_loose 21 = .ok (.ireturn, 1) := by decide +kernel
theorem dX6_loose_22 : decode cX6_loose 22 = .ok (.aload 4, 2) := by decide +kernel
theorem dX6_loose_24 : decode cX6_loose 24 = .ok (.iload_n 2, 1) := by decide +kernel
theorem dX6_loose_25 : decode cX6_loose 25 = .ok (.iload_n 3, 1) := by decide +kernel
theorem dX6_loose_26 : decode cX6_loose 26 = .ok (.invokevirtual 113, 3) := by decide +kernel
theorem dX6_loose_29 : decode cX6_loose 29 = .ok (.aload 4, 2) := by decide +kernel
theorem dX6_loose_31 : decode cX6_loose 31 = .ok (.invokevirtual 66, 3) := by decide +kernel
theorem dX6_loose_34 : decode cX6_loose 34 = .ok (.ireturn, 1) := by decide +kernel
theorem dX6_sum_0 : decode cX6_sum 0 = .ok (.aload_n 0, 1) := by decide +kernel
theorem dX6_sum_1 : decode cX6_sum 1 = .ok (.iload_n 1, 1) := by decide +kernel
theorem dX6_sum_2 : decode cX6_sum 2 = .ok (.iload_n 2, 1) := by decide +kernel
theorem dX6_sum_3 : decode cX6_sum 3 = .ok (.invokevirtual 84, 3) := by decide +kernel
theorem dX6_sum_6 : decode cX6_sum 6 = .ok (.iload_n 2, 1) := by decide +kernel
theorem dX6_sum_7 : decode cX6_sum 7 = .ok (.invokevirtual 255, 3) := by decide +kernel
theorem dX6_sum_10 : decode cX6_sum 10 = .ok (.ireturn, 1) := by decide +kernel
theorem dX6_areSound_0 : decode cX6_areSound 0 = .ok (.aload_n 0, 1) := by decide +kernel
theorem dX6_areSound_1 : decode cX6_areSound 1 = .ok (.iload_n 1, 1) := by decide +kernel
theorem dX6_areSound_2 : decode cX6_areSound 2 = .ok (.invokevirtual 48, 3) := by decide +kernel
theorem dX6_areSound_5 : decode cX6_areSound 5 = .ok (.astore_n 3, 1) := by decide +kernel
theorem dX6_areSound_6 : decode cX6_areSound 6 = .ok (.aload_n 0, 1) := by decide +kernel
theorem dX6_areSound_7 : decode cX6_areSound 7 = .ok (.iload_n 2, 1) := by decide +kernel
theorem dX6_areSound_8 : decode cX6_areSound 8 = .ok (.invokevirtual 48, 3) := by decide +kernel
theorem dX6_areSound_11 : decode cX6_areSound 11 = .ok (.astore 4, 2) := by decide +kernel
theorem dX6_areSound_13 : decode cX6_areSound 13 = .ok (.aload_n 3, 1) := by decide +kernel
theorem dX6_areSound_14 : decode cX6_areSound 14 = .ok (.getfield 56, 3) := by decide +kernel
theorem dX6_areSound_17 : decode cX6_areSound 17 = .ok (.aload 4, 2) := by decide +kernel
theorem dX6_areSound_19 : decode cX6_areSound 19 = .ok (.getfield 56, 3) := by decide +kernel
theorem dX6_areSound_22 : decode cX6_areSound 22 = .ok (.iadd, 1) := by decide +kernel
theorem dX6_areSound_23 : decode cX6_areSound 23 = .ok (.bipush 9, 2) := by decide +kernel
theorem dX6_areSound_25 : decode cX6_areSound 25 = .ok (.if_icmp .gt 16, 3) := by decide +kernel
theorem dX6_areSound_28 : decode cX6_areSound 28 = .ok (.aload_n 0, 1) := by decide +kernel
theorem dX6_areSound_29 : decode cX6_areSound 29 = .ok (.getfield 44, 3) := by decide +kernel
theorem dX6_areSound_32 : decode cX6_areSound 32 = .ok (.aload_n 3, 1) := by decide +kernel
theorem dX6_areSound_33 : decode cX6_areSound 33 = .ok (.aload 4, 2) := by decide +kernel
theorem dX6_areSound_35 : decode cX6_areSound 35 = .ok (.invokevirtual 267, 3) := by decide +kernel
theorem dX6_areSound_38 : decode cX6_areSound 38 = .ok (.ifCond .eq 7, 3) := by decide +kernel
theorem dX6_areSound_41 : decode cX6_areSound 41 = .ok (.iconst 1, 1) := by decide +kernel
theorem dX6_areSound_42 : decode cX6_areSound 42 = .ok (.goto 4, 3) := by decide +kernel
theorem dX6_areSound_45 : decode cX6_areSound 45 = .ok (.iconst 0, 1) := by decide +kernel
theorem dX6_areSound_46 : decode cX6_areSound 46 = .ok (.ireturn, 1) := by decide +kernel
theorem dX6_fewestChains_0 : decode cX6_fewestChains 0 = .ok (.aload_n 0, 1) := by decide +kernel
theorem dX6_fewestChains_1 : decode cX6_fewestChains 1 = .ok (.getfield 23, 3) := by decide +kernel
theorem dX6_fewestChains_4 : decode cX6_fewestChains 4 = .ok (.aload_n 0, 1) := by decide +kernel
theorem dX6_fewestChains_5 : decode cX6_fewestChains 5 = .ok (.iload_n 1, 1) := by decide +kernel
theorem dX6_fewestChains_6 : decode cX6_fewestChains 6 = .ok (.invokevirtual 48, 3) := by decide +kernel
theorem dX6_fewestChains_9 : decode cX6_fewestChains 9 = .ok (.invokevirtual 180, 3) := by decide +kernel
theorem dX6_fewestChains_12 : decode cX6_fewestChains 12 = .ok (.ireturn, 1) := by decide +kernel
theorem dX6_longest_0 : decode cX6_longest 0 = .ok (.aload_n 0, 1) := by decide +kernel
theorem dX6_longest_1 : decode cX6_longest 1 = .ok (.iload_n 1, 1) := by decide +kernel
theorem dX6_longest_2 : decode cX6_longest 2 = .ok (.invokevirtual 48, 3) := by decide +kernel
theorem dX6_longest_5 : decode cX6_longest 5 = .ok (.astore_n 2, 1) := by decide +kernel
theorem dX6_longest_6 : decode cX6_longest 6 = .ok (.aload_n 2, 1) := by decide +kernel
theorem dX6_longest_7 : decode cX6_longest 7 = .ok (.aload_n 2, 1) := by decide +kernel
theorem dX6_longest_8 : decode cX6_longest 8 = .ok (.invokevirtual 92, 3) := by decide +kernel
theorem dX6_longest_11 : decode cX6_longest 11 = .ok (.invokestatic 172, 3) := by decide +kernel
theorem dX6_longest_14 : decode cX6_longest 14 = .ok (.ireturn, 1) := by decide +kernel
theorem dX6_orderWithSet_0 : decode cX6_orderWithSet 0 = .ok (.aload_n 0, 1) := by decide +kernel
theorem dX6_orderWithSet_1 : decode cX6_orderWithSet 1 = .ok (.iload_n 1, 1) := by decide +kernel
theorem dX6_orderWithSet_2 : decode cX6_orderWithSet 2 = .ok (.invokevirtual 48, 3) := by decide +kernel
theorem dX6_orderWithSet_5 : decode cX6_orderWithSet 5 = .ok (.astore_n 3, 1) := by decide +kernel
theorem dX6_orderWithSet_6 : decode cX6_orderWithSet 6 = .ok (.iload_n 2, 1) := by decide +kernel
theorem dX6_orderWithSet_7 : decode cX6_orderWithSet 7 = .ok (.ifCond .lt 11, 3) := by decide +kernel
theorem dX6_orderWithSet_10 : decode cX6_orderWithSet 10 = .ok (.iload_n 2, 1) := by decide +kernel
theorem dX6_orderWithSet_11 : decode cX6_orderWithSet 11 = .ok (.aload_n 3, 1) := by decide +kernel
theorem dX6_orderWithSet_12 : decode cX6_orderWithSet 12 = .ok (.invokevirtual 286, 3) := by decide +kernel
theorem dX6_orderWithSet_15 : decode cX6_orderWithSet 15 = .ok (.if_icmp .lt 14, 3) := by decide +kernel
theorem dX6_orderWithSet_18 : decode cX6_orderWithSet 18 = .ok (.new 216, 3) := by decide +kernel
theorem dX6_orderWithSet_21 : decode cX6_orderWithSet 21 = .ok (.dup, 1) := by decide +kernel
theorem dX6_orderWithSet_22 : decode cX6_orderWithSet 22 = .ok (.ldc_w 289, 3) := by decide +kernel
theorem dX6_orderWithSet_25 : decode cX6_orderWithSet 25 = .ok (.invokespecial 220, 3) := by decide +kernel
theorem dX6_orderWithSet_28 : decode cX6_orderWithSet 28 = .ok (.athrow, 1) := by decide +kernel
theorem dX6_orderWithSet_29 : decode cX6_orderWithSet 29 = .ok (.aload_n 3, 1) := by decide +kernel
theorem dX6_orderWithSet_30 : decode cX6_orderWithSet 30 = .ok (.areturn, 1) := by decide +kernel
theorem dX6_inner_0 : decode cX6_inner 0 = .ok (.aload_n 0, 1) := by decide +kernel
theorem dX6_inner_1 : decode cX6_inner 1 = .ok (.iload_n 1, 1) := by decide +kernel
theorem dX6_inner_2 : decode cX6_inner 2 = .ok (.iload_n 2, 1) := by decide +kernel
theorem dX6_inner_3 : decode cX6_inner 3 = .ok (.invokevirtual 98, 3) := by decide +kernel
theorem dX6_inner_6 : decode cX6_inner 6 = .ok (.iload_n 2, 1) := by decide +kernel
theorem dX6_inner_7 : decode cX6_inner 7 = .ok (.invokevirtual 224, 3) := by decide +kernel
theorem dX6_inner_10 : decode cX6_inner 10 = .ok (.ireturn, 1) := by decide +kernel
theorem dX6_undone_0 : decode cX6_undone 0 = .ok (.aload_n 0, 1) := by decide +kernel
theorem dX6_undone_1 : decode cX6_undone 1 = .ok (.getfield 37, 3) := by decide +kernel
theorem dX6_undone_4 : decode cX6_undone 4 = .ok (.aload_n 0, 1) := by decide +kernel
theorem dX6_undone_5 : decode cX6_undone 5 = .ok (.iload_n 1, 1) := by decide +kernel
theorem dX6_undone_6 : decode cX6_undone 6 = .ok (.iload_n 2, 1) := by decide +kernel
theorem dX6_undone_7 : decode cX6_undone 7 = .ok (.invokevirtual 84, 3) := by decide +kernel
theorem dX6_undone_10 : decode cX6_undone 10 = .ok (.iload_n 2, 1) := by decide +kernel
theorem dX6_undone_11 : decode cX6_undone 11 = .ok (.invokevirtual 261, 3) := by decide +kernel
theorem dX6_undone_14 : decode cX6_undone 14 = .ok (.ireturn, 1) := by decide +kernel
theorem dX6_joinInto_0 : decode cX6_joinInto 0 = .ok (.aload_n 0, 1) := by decide +kernel
theorem dX6_joinInto_1 : decode cX6_joinInto 1 = .ok (.iload_n 1, 1) := by decide +kernel
theorem dX6_joinInto_2 : decode cX6_joinInto 2 = .ok (.invokevirtual 48, 3) := by decide +kernel
theorem dX6_joinInto_5 : decode cX6_joinInto 5 = .ok (.astore 5, 2) := by decide +kernel
theorem dX6_joinInto_7 : decode cX6_joinInto 7 = .ok (.aload_n 0, 1) := by decide +kernel
theorem dX6_joinInto_8 : decode cX6_joinInto 8 = .ok (.iload_n 2, 1) := by decide +kernel
theorem dX6_joinInto_9 : decode cX6_joinInto 9 = .ok (.invokevirtual 48, 3) := by decide +kernel
theorem dX6_joinInto_12 : decode cX6_joinInto 12 = .ok (.astore 6, 2) := by decide +kernel
theorem dX6_joinInto_14 : decode cX6_joinInto 14 = .ok (.aload_n 0, 1) := by decide +kernel
theorem dX6_joinInto_15 : decode cX6_joinInto 15 = .ok (.iload_n 3, 1) := by decide +kernel
theorem dX6_joinInto_16 : decode cX6_joinInto 16 = .ok (.invokevirtual 48, 3) := by decide +kernel
theorem dX6_joinInto_19 : decode cX6_joinInto 19 = .ok (.astore 7, 2) := by decide +kernel
theorem dX6_joinInto_21 : decode cX6_joinInto 21 = .ok (.aload 5, 2) := by decide +kernel
theorem dX6_joinInto_23 : decode cX6_joinInto 23 = .ok (.getfield 56, 3) := by decide +kernel
theorem dX6_joinInto_26 : decode cX6_joinInto 26 = .ok (.aload 6, 2) := by decide +kernel
theorem dX6_joinInto_28 : decode cX6_joinInto 28 = .ok (.getfield 56, 3) := by decide +kernel
theorem dX6_joinInto_31 : decode cX6_joinInto 31 = .ok (.iadd, 1) := by decide +kernel
theorem dX6_joinInto_32 : decode cX6_joinInto 32 = .ok (.bipush 9, 2) := by decide +kernel
theorem dX6_joinInto_34 : decode cX6_joinInto 34 = .ok (.if_icmp .le 14, 3) := by decide +kernel
theorem dX6_joinInto_37 : decode cX6_joinInto 37 = .ok (.new 73, 3) := by decide +kernel
theorem dX6_joinInto_40 : decode cX6_joinInto 40 = .ok (.dup, 1) := by decide +kernel
theorem dX6_joinInto_41 : decode cX6_joinInto 41 = .ok (.ldc_w 300, 3) := by decide +kernel
theorem dX6_joinInto_44 : decode cX6_joinInto 44 = .ok (.invokespecial 77, 3) := by decide +kernel
theorem dX6_joinInto_47 : decode cX6_joinInto 47 = .ok (.athrow, 1) := by decide +kernel
theorem dX6_joinInto_48 : decode cX6_joinInto 48 = .ok (.aload_n 0, 1) := by decide +kernel
theorem dX6_joinInto_49 : decode cX6_joinInto 49 = .ok (.getfield 16, 3) := by decide +kernel
theorem dX6_joinInto_52 : decode cX6_joinInto 52 = .ok (.aload 5, 2) := by decide +kernel
theorem dX6_joinInto_54 : decode cX6_joinInto 54 = .ok (.aload 6, 2) := by decide +kernel
theorem dX6_joinInto_56 : decode cX6_joinInto 56 = .ok (.iload 4, 2) := by decide +kernel
theorem dX6_joinInto_58 : decode cX6_joinInto 58 = .ok (.invokevirtual 302, 3) := by decide +kernel
theorem dX6_joinInto_61 : decode cX6_joinInto 61 = .ok (.aload 7, 2) := by decide +kernel
theorem dX6_joinInto_63 : decode cX6_joinInto 63 = .ok (.aload_n 0, 1) := by decide +kernel
theorem dX6_joinInto_64 : decode cX6_joinInto 64 = .ok (.getfield 16, 3) := by decide +kernel
theorem dX6_joinInto_67 : decode cX6_joinInto 67 = .ok (.invokevirtual 132, 3) := by decide +kernel
theorem dX6_joinInto_70 : decode cX6_joinInto 70 = .ok (.aload 7, 2) := by decide +kernel
theorem dX6_joinInto_72 : decode cX6_joinInto 72 = .ok (.areturn, 1) := by decide +kernel
theorem dX6_beside_0 : decode cX6_beside 0 = .ok (.aload_n 0, 1) := by decide +kernel
theorem dX6_beside_1 : decode cX6_beside 1 = .ok (.iload_n 1, 1) := by decide +kernel
theorem dX6_beside_2 : decode cX6_beside 2 = .ok (.iload_n 2, 1) := by decide +kernel
theorem dX6_beside_3 : decode cX6_beside 3 = .ok (.iload_n 3, 1) := by decide +kernel
theorem dX6_beside_4 : decode cX6_beside 4 = .ok (.iconst 0, 1) := by decide +kernel
theorem dX6_beside_5 : decode cX6_beside 5 = .ok (.invokevirtual 135, 3) := by decide +kernel
theorem dX6_beside_8 : decode cX6_beside 8 = .ok (.getfield 56, 3) := by decide +kernel
theorem dX6_beside_11 : decode cX6_beside 11 = .ok (.ireturn, 1) := by decide +kernel
theorem dX6_ends_0 : decode cX6_ends 0 = .ok (.aload_n 0, 1) := by decide +kernel
theorem dX6_ends_1 : decode cX6_ends 1 = .ok (.iload_n 1, 1) := by decide +kernel
theorem dX6_ends_2 : decode cX6_ends 2 = .ok (.invokevirtual 48, 3) := by decide +kernel
theorem dX6_ends_5 : decode cX6_ends 5 = .ok (.astore_n 3, 1) := by decide +kernel
theorem dX6_ends_6 : decode cX6_ends 6 = .ok (.iload_n 2, 1) := by decide +kernel
theorem dX6_ends_7 : decode cX6_ends 7 = .ok (.ifCond .eq 14, 3) := by decide +kernel
theorem dX6_ends_10 : decode cX6_ends 10 = .ok (.aload_n 3, 1) := by decide +kernel
theorem dX6_ends_11 : decode cX6_ends 11 = .ok (.aload_n 3, 1) := by decide +kernel
theorem dX6_ends_12 : decode cX6_ends 12 = .ok (.invokevirtual 92, 3) := by decide +kernel
theorem dX6_ends_15 : decode cX6_ends 15 = .ok (.invokevirtual 155, 3) := by decide +kernel
theorem dX6_ends_18 : decode cX6_ends 18 = .ok (.goto 11, 3) := by decide +kernel
theorem dX6_ends_21 : decode cX6_ends 21 = .ok (.aload_n 3, 1) := by decide +kernel
theorem dX6_ends_22 : decode cX6_ends 22 = .ok (.aload_n 3, 1) := by decide +kernel
theorem dX6_ends_23 : decode cX6_ends 23 = .ok (.invokevirtual 92, 3) := by decide +kernel
theorem dX6_ends_26 : decode cX6_ends 26 = .ok (.invokevirtual 158, 3) := by decide +kernel
theorem dX6_ends_29 : decode cX6_ends 29 = .ok (.ireturn, 1) := by decide +kernel
theorem dX6_refuseOddMany_0 : decode cX6_refuseOddMany 0 = .ok (.iload_n 0, 1) := by decide +kernel
theorem dX6_refuseOddMany_1 : decode cX6_refuseOddMany 1 = .ok (.ifCond .lt 9, 3) := by decide +kernel
theorem dX6_refuseOddMany_4 : decode cX6_refuseOddMany 4 = .ok (.iload_n 0, 1) := by decide +kernel
theorem dX6_refuseOddMany_5 : decode cX6_refuseOddMany 5 = .ok (.bipush 9, 2) := by decide +kernel
theorem dX6_refuseOddMany_7 : decode cX6_refuseOddMany 7 = .ok (.if_icmp .le 14, 3) := by decide +kernel
theorem dX6_refuseOddMany_10 : decode cX6_refuseOddMany 10 = .ok (.new 216, 3) := by decide +kernel
theorem dX6_refuseOddMany_13 : decode cX6_refuseOddMany 13 = .ok (.dup, 1) := by decide +kernel
theorem dX6_refuseOddMany_14 : decode cX6_refuseOddMany 14 = .ok (.ldc_w 291, 3) := by decide +kernel
theorem dX6_refuseOddMany_17 : decode cX6_refuseOddMany 17 = .ok (.invokespecial 220, 3) := by decide +kernel
theorem dX6_refuseOddMany_20 : decode cX6_refuseOddMany 20 = .ok (.athrow, 1) := by decide +kernel
theorem dX6_refuseOddMany_21 : decode cX6_refuseOddMany 21 = .ok (.return_, 1) := by decide +kernel
theorem dX6_chain_0 : decode cX6_chain 0 = .ok (.aload_n 0, 1) := by decide +kernel
theorem dX6_chain_1 : decode cX6_chain 1 = .ok (.iload_n 1, 1) := by decide +kernel
theorem dX6_chain_2 : decode cX6_chain 2 = .ok (.invokevirtual 48, 3) := by decide +kernel
theorem dX6_chain_5 : decode cX6_chain 5 = .ok (.astore_n 3, 1) := by decide +kernel
theorem dX6_chain_6 : decode cX6_chain 6 = .ok (.iload_n 2, 1) := by decide +kernel
theorem dX6_chain_7 : decode cX6_chain 7 = .ok (.invokestatic 52, 3) := by decide +kernel
theorem dX6_chain_10 : decode cX6_chain 10 = .ok (.aload_n 3, 1) := by decide +kernel
theorem dX6_chain_11 : decode cX6_chain 11 = .ok (.iload_n 2, 1) := by decide +kernel
theorem dX6_chain_12 : decode cX6_chain 12 = .ok (.invokevirtual 60, 3) := by decide +kernel
theorem dX6_chain_15 : decode cX6_chain 15 = .ok (.aload_n 3, 1) := by decide +kernel
theorem dX6_chain_16 : decode cX6_chain 16 = .ok (.invokevirtual 63, 3) := by decide +kernel
theorem dX6_chain_19 : decode cX6_chain 19 = .ok (.aload_n 3, 1) := by decide +kernel
theorem dX6_chain_20 : decode cX6_chain 20 = .ok (.invokevirtual 66, 3) := by decide +kernel
theorem dX6_chain_23 : decode cX6_chain 23 = .ok (.ireturn, 1) := by decide +kernel
theorem dX6_isChain_0 : decode cX6_isChain 0 = .ok (.aload_n 0, 1) := by decide +kernel
theorem dX6_isChain_1 : decode cX6_isChain 1 = .ok (.iload_n 1, 1) := by decide +kernel
theorem dX6_isChain_2 : decode cX6_isChain 2 = .ok (.iload_n 2, 1) := by decide +kernel
theorem dX6_isChain_3 : decode cX6_isChain 3 = .ok (.invokevirtual 98, 3) := by decide +kernel
theorem dX6_isChain_6 : decode cX6_isChain 6 = .ok (.iload_n 2, 1) := by decide +kernel
theorem dX6_isChain_7 : decode cX6_isChain 7 = .ok (.invokevirtual 165, 3) := by decide +kernel
theorem dX6_isChain_10 : decode cX6_isChain 10 = .ok (.ireturn, 1) := by decide +kernel
theorem dX6_layOutRow_0 : decode cX6_layOutRow 0 = .ok (.aload_n 0, 1) := by decide +kernel
theorem dX6_layOutRow_1 : decode cX6_layOutRow 1 = .ok (.getfield 30, 3) := by decide +kernel
theorem dX6_layOutRow_4 : decode cX6_layOutRow 4 = .ok (.aload_n 1, 1) := by decide +kernel
theorem dX6_layOutRow_5 : decode cX6_layOutRow 5 = .ok (.invokevirtual 240, 3) := by decide +kernel
theorem dX6_layOutRow_8 : decode cX6_layOutRow 8 = .ok (.istore_n 3, 1) := by decide +kernel
theorem dX6_layOutRow_9 : decode cX6_layOutRow 9 = .ok (.iload_n 2, 1) := by decide +kernel
theorem dX6_layOutRow_10 : decode cX6_layOutRow 10 = .ok (.ifCond .lt 8, 3) := by decide +kernel
theorem dX6_layOutRow_13 : decode cX6_layOutRow 13 = .ok (.iload_n 2, 1) := by decide +kernel
theorem dX6_layOutRow_14 : decode cX6_layOutRow 14 = .ok (.iload_n 3, 1) := by decide +kernel
theorem dX6_layOutRow_15 : decode cX6_layOutRow 15 = .ok (.if_icmp .lt 14, 3) := by decide +kernel
theorem dX6_layOutRow_18 : decode cX6_layOutRow 18 = .ok (.new 199, 3) := by decide +kernel
theorem dX6_layOutRow_21 : decode cX6_layOutRow 21 = .ok (.dup, 1) := by decide +kernel
theorem dX6_layOutRow_22 : decode cX6_layOutRow 22 = .ok (.ldc_w 295, 3) := by decide +kernel
theorem dX6_layOutRow_25 : decode cX6_layOutRow 25 = .ok (.invokespecial 203, 3) := by decide +kernel
theorem dX6_layOutRow_28 : decode cX6_layOutRow 28 = .ok (.athrow, 1) := by decide +kernel
theorem dX6_layOutRow_29 : decode cX6_layOutRow 29 = .ok (.aload_n 0, 1) := by decide +kernel
theorem dX6_layOutRow_30 : decode cX6_layOutRow 30 = .ok (.getfield 30, 3) := by decide +kernel
theorem dX6_layOutRow_33 : decode cX6_layOutRow 33 = .ok (.aload_n 1, 1) := by decide +kernel
theorem dX6_layOutRow_34 : decode cX6_layOutRow 34 = .ok (.iload_n 2, 1) := by decide +kernel
theorem dX6_layOutRow_35 : decode cX6_layOutRow 35 = .ok (.invokevirtual 297, 3) := by decide +kernel
theorem dX6_layOutRow_38 : decode cX6_layOutRow 38 = .ok (.return_, 1) := by decide +kernel
theorem dX6_straighten_0 : decode cX6_straighten 0 = .ok (.aload_n 0, 1) := by decide +kernel
theorem dX6_straighten_1 : decode cX6_straighten 1 = .ok (.iload_n 1, 1) := by decide +kernel
theorem dX6_straighten_2 : decode cX6_straighten 2 = .ok (.invokevirtual 48, 3) := by decide +kernel
theorem dX6_straighten_5 : decode cX6_straighten 5 = .ok (.astore_n 3, 1) := by decide +kernel
theorem dX6_straighten_6 : decode cX6_straighten 6 = .ok (.aload_n 0, 1) := by decide +kernel
theorem dX6_straighten_7 : decode cX6_straighten 7 = .ok (.aload_n 3, 1) := by decide +kernel
theorem dX6_straighten_8 : decode cX6_straighten 8 = .ok (.iload_n 2, 1) := by decide +kernel
theorem dX6_straighten_9 : decode cX6_straighten 9 = .ok (.invokevirtual 117, 3) := by decide +kernel
theorem dX6_straighten_12 : decode cX6_straighten 12 = .ok (.aload_n 3, 1) := by decide +kernel
theorem dX6_straighten_13 : decode cX6_straighten 13 = .ok (.invokevirtual 66, 3) := by decide +kernel
theorem dX6_straighten_16 : decode cX6_straighten 16 = .ok (.istore 4, 2) := by decide +kernel
theorem dX6_straighten_18 : decode cX6_straighten 18 = .ok (.aload_n 3, 1) := by decide +kernel
theorem dX6_straighten_19 : decode cX6_straighten 19 = .ok (.aload_n 0, 1) := by decide +kernel
theorem dX6_straighten_20 : decode cX6_straighten 20 = .ok (.getfield 30, 3) := by decide +kernel
theorem dX6_straighten_23 : decode cX6_straighten 23 = .ok (.getfield 121, 3) := by decide +kernel
theorem dX6_straighten_26 : decode cX6_straighten 26 = .ok (.invokevirtual 124, 3) := by decide +kernel
theorem dX6_straighten_29 : decode cX6_straighten 29 = .ok (.aload_n 3, 1) := by decide +kernel
theorem dX6_straighten_30 : decode cX6_straighten 30 = .ok (.invokevirtual 66, 3) := by decide +kernel
theorem dX6_straighten_33 : decode cX6_straighten 33 = .ok (.iload 4, 2) := by decide +kernel
theorem dX6_straighten_35 : decode cX6_straighten 35 = .ok (.isub, 1) := by decide +kernel
theorem dX6_straighten_36 : decode cX6_straighten 36 = .ok (.ireturn, 1) := by decide +kernel
theorem dX6_fewestAparts_0 : decode cX6_fewestAparts 0 = .ok (.aload_n 0, 1) := by decide +kernel
theorem dX6_fewestAparts_1 : decode cX6_fewestAparts 1 = .ok (.iload_n 1, 1) := by decide +kernel
theorem dX6_fewestAparts_2 : decode cX6_fewestAparts 2 = .ok (.invokevirtual 48, 3) := by decide +kernel
theorem dX6_fewestAparts_5 : decode cX6_fewestAparts 5 = .ok (.invokestatic 183, 3) := by decide +kernel
theorem dX6_fewestAparts_8 : decode cX6_fewestAparts 8 = .ok (.ireturn, 1) := by decide +kernel
theorem dX6_setAt_0 : decode cX6_setAt 0 = .ok (.aload_n 0, 1) := by decide +kernel
theorem dX6_setAt_1 : decode cX6_setAt 1 = .ok (.iload_n 1, 1) := by decide +kernel
theorem dX6_setAt_2 : decode cX6_setAt 2 = .ok (.invokevirtual 48, 3) := by decide +kernel
theorem dX6_setAt_5 : decode cX6_setAt 5 = .ok (.iload_n 2, 1) := by decide +kernel
theorem dX6_setAt_6 : decode cX6_setAt 6 = .ok (.invokestatic 196, 3) := by decide +kernel
theorem dX6_setAt_9 : decode cX6_setAt 9 = .ok (.istore_n 3, 1) := by decide +kernel
theorem dX6_setAt_10 : decode cX6_setAt 10 = .ok (.iload_n 3, 1) := by decide +kernel
theorem dX6_setAt_11 : decode cX6_setAt 11 = .ok (.iconst (-1), 1) := by decide +kernel
theorem dX6_setAt_12 : decode cX6_setAt 12 = .ok (.if_icmp .ne 13, 3) := by decide +kernel
theorem dX6_setAt_15 : decode cX6_setAt 15 = .ok (.new 199, 3) := by decide +kernel
theorem dX6_setAt_18 : decode cX6_setAt 18 = .ok (.dup, 1) := by decide +kernel
theorem dX6_setAt_19 : decode cX6_setAt 19 = .ok (.ldc 201, 2) := by decide +kernel
theorem dX6_setAt_21 : decode cX6_setAt 21 = .ok (.invokespecial 203, 3) := by decide +kernel
theorem dX6_setAt_24 : decode cX6_setAt 24 = .ok (.athrow, 1) := by decide +kernel
theorem dX6_setAt_25 : decode cX6_setAt 25 = .ok (.iload_n 3, 1) := by decide +kernel
theorem dX6_setAt_26 : decode cX6_setAt 26 = .ok (.ireturn, 1) := by decide +kernel
theorem dX6_aparts_0 : decode cX6_aparts 0 = .ok (.aload_n 0, 1) := by decide +kernel
theorem dX6_aparts_1 : decode cX6_aparts 1 = .ok (.iload_n 1, 1) := by decide +kernel
theorem dX6_aparts_2 : decode cX6_aparts 2 = .ok (.invokevirtual 48, 3) := by decide +kernel
theorem dX6_aparts_5 : decode cX6_aparts 5 = .ok (.invokestatic 186, 3) := by decide +kernel
theorem dX6_aparts_8 : decode cX6_aparts 8 = .ok (.ireturn, 1) := by decide +kernel
theorem dX6_sets_0 : decode cX6_sets 0 = .ok (.aload_n 0, 1) := by decide +kernel
theorem dX6_sets_1 : decode cX6_sets 1 = .ok (.iload_n 1, 1) := by decide +kernel
theorem dX6_sets_2 : decode cX6_sets 2 = .ok (.invokevirtual 48, 3) := by decide +kernel
theorem dX6_sets_5 : decode cX6_sets 5 = .ok (.invokestatic 189, 3) := by decide +kernel
theorem dX6_sets_8 : decode cX6_sets 8 = .ok (.ireturn, 1) := by decide +kernel
theorem dX6_isNext_0 : decode cX6_isNext 0 = .ok (.aload_n 0, 1) := by decide +kernel
theorem dX6_isNext_1 : decode cX6_isNext 1 = .ok (.iload_n 1, 1) := by decide +kernel
theorem dX6_isNext_2 : decode cX6_isNext 2 = .ok (.iload_n 2, 1) := by decide +kernel
theorem dX6_isNext_3 : decode cX6_isNext 3 = .ok (.iload_n 3, 1) := by decide +kernel
theorem dX6_isNext_4 : decode cX6_isNext 4 = .ok (.invokevirtual 101, 3) := by decide +kernel
theorem dX6_isNext_7 : decode cX6_isNext 7 = .ok (.iload_n 2, 1) := by decide +kernel
theorem dX6_isNext_8 : decode cX6_isNext 8 = .ok (.iload_n 3, 1) := by decide +kernel
theorem dX6_isNext_9 : decode cX6_isNext 9 = .ok (.invokevirtual 109, 3) := by decide +kernel
theorem dX6_isNext_12 : decode cX6_isNext 12 = .ok (.ireturn, 1) := by decide +kernel
theorem dX6_nextRow_0 : decode cX6_nextRow 0 = .ok (.aload_n 0, 1) := by decide +kernel
theorem dX6_nextRow_1 : decode cX6_nextRow 1 = .ok (.iload_n 1, 1) := by decide +kernel
theorem dX6_nextRow_2 : decode cX6_nextRow 2 = .ok (.invokevirtual 48, 3) := by decide +kernel
theorem dX6_nextRow_5 : decode cX6_nextRow 5 = .ok (.astore_n 3, 1) := by decide +kernel
theorem dX6_nextRow_6 : decode cX6_nextRow 6 = .ok (.aload_n 0, 1) := by decide +kernel
theorem dX6_nextRow_7 : decode cX6_nextRow 7 = .ok (.getfield 30, 3) := by decide +kernel
theorem dX6_nextRow_10 : decode cX6_nextRow 10 = .ok (.aload_n 3, 1) := by decide +kernel
theorem dX6_nextRow_11 : decode cX6_nextRow 11 = .ok (.iload_n 2, 1) := by decide +kernel
theorem dX6_nextRow_12 : decode cX6_nextRow 12 = .ok (.invokevirtual 235, 3) := by decide +kernel
theorem dX6_nextRow_15 : decode cX6_nextRow 15 = .ok (.istore 4, 2) := by decide +kernel
theorem dX6_nextRow_17 : decode cX6_nextRow 17 = .ok (.iload 4, 2) := by decide +kernel
theorem dX6_nextRow_19 : decode cX6_nextRow 19 = .ok (.iconst (-1), 1) := by decide +kernel
theorem dX6_nextRow_20 : decode cX6_nextRow 20 = .ok (.if_icmp .ne 13, 3) := by decide +kernel
theorem dX6_nextRow_23 : decode cX6_nextRow 23 = .ok (.new 216, 3) := by decide +kernel
theorem dX6_nextRow_26 : decode cX6_nextRow 26 = .ok (.dup, 1) := by decide +kernel
theorem dX6_nextRow_27 : decode cX6_nextRow 27 = .ok (.ldc 238, 2) := by decide +kernel
theorem dX6_nextRow_29 : decode cX6_nextRow 29 = .ok (.invokespecial 220, 3) := by decide +kernel
theorem dX6_nextRow_32 : decode cX6_nextRow 32 = .ok (.athrow, 1) := by decide +kernel
theorem dX6_nextRow_33 : decode cX6_nextRow 33 = .ok (.iload 4, 2) := by decide +kernel
theorem dX6_nextRow_35 : decode cX6_nextRow 35 = .ok (.iconst 1, 1) := by decide +kernel
theorem dX6_nextRow_36 : decode cX6_nextRow 36 = .ok (.iadd, 1) := by decide +kernel
theorem dX6_nextRow_37 : decode cX6_nextRow 37 = .ok (.aload_n 0, 1) := by decide +kernel
theorem dX6_nextRow_38 : decode cX6_nextRow 38 = .ok (.getfield 30, 3) := by decide +kernel
theorem dX6_nextRow_41 : decode cX6_nextRow 41 = .ok (.aload_n 3, 1) := by decide +kernel
theorem dX6_nextRow_42 : decode cX6_nextRow 42 = .ok (.invokevirtual 231, 3) := by decide +kernel
theorem dX6_nextRow_45 : decode cX6_nextRow 45 = .ok (.if_icmp .lt 5, 3) := by decide +kernel
theorem dX6_nextRow_48 : decode cX6_nextRow 48 = .ok (.iconst (-1), 1) := by decide +kernel
theorem dX6_nextRow_49 : decode cX6_nextRow 49 = .ok (.ireturn, 1) := by decide +kernel
theorem dX6_nextRow_50 : decode cX6_nextRow 50 = .ok (.aload_n 0, 1) := by decide +kernel
theorem dX6_nextRow_51 : decode cX6_nextRow 51 = .ok (.aload_n 3, 1) := by decide +kernel
theorem dX6_nextRow_52 : decode cX6_nextRow 52 = .ok (.iload 4, 2) := by decide +kernel
theorem dX6_nextRow_54 : decode cX6_nextRow 54 = .ok (.iconst 1, 1) := by decide +kernel
theorem dX6_nextRow_55 : decode cX6_nextRow 55 = .ok (.iadd, 1) := by decide +kernel
theorem dX6_nextRow_56 : decode cX6_nextRow 56 = .ok (.invokevirtual 117, 3) := by decide +kernel
theorem dX6_nextRow_59 : decode cX6_nextRow 59 = .ok (.aload_n 0, 1) := by decide +kernel
theorem dX6_nextRow_60 : decode cX6_nextRow 60 = .ok (.getfield 30, 3) := by decide +kernel
theorem dX6_nextRow_63 : decode cX6_nextRow 63 = .ok (.aload_n 3, 1) := by decide +kernel
theorem dX6_nextRow_64 : decode cX6_nextRow 64 = .ok (.invokevirtual 232, 3) := by decide +kernel
theorem dX6_nextRow_67 : decode cX6_nextRow 67 = .ok (.ireturn, 1) := by decide +kernel
theorem dX6_tops_0 : decode cX6_tops 0 = .ok (.aload_n 0, 1) := by decide +kernel
theorem dX6_tops_1 : decode cX6_tops 1 = .ok (.iload_n 1, 1) := by decide +kernel
theorem dX6_tops_2 : decode cX6_tops 2 = .ok (.iload_n 2, 1) := by decide +kernel
theorem dX6_tops_3 : decode cX6_tops 3 = .ok (.invokevirtual 98, 3) := by decide +kernel
theorem dX6_tops_6 : decode cX6_tops 6 = .ok (.astore_n 3, 1) := by decide +kernel
theorem dX6_tops_7 : decode cX6_tops 7 = .ok (.aload_n 3, 1) := by decide +kernel
theorem dX6_tops_8 : decode cX6_tops 8 = .ok (.iload_n 2, 1) := by decide +kernel
theorem dX6_tops_9 : decode cX6_tops 9 = .ok (.invokevirtual 204, 3) := by decide +kernel
theorem dX6_tops_12 : decode cX6_tops 12 = .ok (.ifCond .eq 11, 3) := by decide +kernel
theorem dX6_tops_15 : decode cX6_tops 15 = .ok (.aload_n 3, 1) := by decide +kernel
theorem dX6_tops_16 : decode cX6_tops 16 = .ok (.iload_n 2, 1) := by decide +kernel
theorem dX6_tops_17 : decode cX6_tops 17 = .ok (.invokevirtual 155, 3) := by decide +kernel
theorem dX6_tops_20 : decode cX6_tops 20 = .ok (.goto 5, 3) := by decide +kernel
theorem dX6_tops_23 : decode cX6_tops 23 = .ok (.bipush (-9), 2) := by decide +kernel
theorem dX6_tops_25 : decode cX6_tops 25 = .ok (.ireturn, 1) := by decide +kernel
theorem dX6_rowsWith_0 : decode cX6_rowsWith 0 = .ok (.aload_n 0, 1) := by decide +kernel
theorem dX6_rowsWith_1 : decode cX6_rowsWith 1 = .ok (.iload_n 1, 1) := by decide +kernel
theorem dX6_rowsWith_2 : decode cX6_rowsWith 2 = .ok (.iload_n 2, 1) := by decide +kernel
theorem dX6_rowsWith_3 : decode cX6_rowsWith 3 = .ok (.iload_n 3, 1) := by decide +kernel
theorem dX6_rowsWith_4 : decode cX6_rowsWith 4 = .ok (.invokevirtual 101, 3) := by decide +kernel
theorem dX6_rowsWith_7 : decode cX6_rowsWith 7 = .ok (.astore 4, 2) := by decide +kernel
theorem dX6_rowsWith_9 : decode cX6_rowsWith 9 = .ok (.aload_n 0, 1) := by decide +kernel
theorem dX6_rowsWith_10 : decode cX6_rowsWith 10 = .ok (.getfield 30, 3) := by decide +kernel
theorem dX6_rowsWith_13 : decode cX6_rowsWith 13 = .ok (.aload 4, 2) := by decide +kernel
theorem dX6_rowsWith_15 : decode cX6_rowsWith 15 = .ok (.invokevirtual 240, 3) := by decide +kernel
theorem dX6_rowsWith_18 : decode cX6_rowsWith 18 = .ok (.pop, 1) := by decide +kernel
theorem dX6_rowsWith_19 : decode cX6_rowsWith 19 = .ok (.aload_n 0, 1) := by decide +kernel
theorem dX6_rowsWith_20 : decode cX6_rowsWith 20 = .ok (.getfield 30, 3) := by decide +kernel
theorem dX6_rowsWith_23 : decode cX6_rowsWith 23 = .ok (.aload 4, 2) := by decide +kernel
theorem dX6_rowsWith_25 : decode cX6_rowsWith 25 = .ok (.iload_n 2, 1) := by decide +kernel
theorem dX6_rowsWith_26 : decode cX6_rowsWith 26 = .ok (.iload_n 3, 1) := by decide +kernel
theorem dX6_rowsWith_27 : decode cX6_rowsWith 27 = .ok (.invokevirtual 243, 3) := by decide +kernel
theorem dX6_rowsWith_30 : decode cX6_rowsWith 30 = .ok (.ireturn, 1) := by decide +kernel
theorem dX6_number_0 : decode cX6_number 0 = .ok (.aload_n 0, 1) := by decide +kernel
theorem dX6_number_1 : decode cX6_number 1 = .ok (.getfield 37, 3) := by decide +kernel
theorem dX6_number_4 : decode cX6_number 4 = .ok (.aload_n 0, 1) := by decide +kernel
theorem dX6_number_5 : decode cX6_number 5 = .ok (.iload_n 1, 1) := by decide +kernel
theorem dX6_number_6 : decode cX6_number 6 = .ok (.iload_n 2, 1) := by decide +kernel
theorem dX6_number_7 : decode cX6_number 7 = .ok (.iload_n 3, 1) := by decide +kernel
theorem dX6_number_8 : decode cX6_number 8 = .ok (.invokevirtual 101, 3) := by decide +kernel
theorem dX6_number_11 : decode cX6_number 11 = .ok (.iload_n 2, 1) := by decide +kernel
theorem dX6_number_12 : decode cX6_number 12 = .ok (.iload_n 3, 1) := by decide +kernel
theorem dX6_number_13 : decode cX6_number 13 = .ok (.invokevirtual 258, 3) := by decide +kernel
theorem dX6_number_16 : decode cX6_number 16 = .ok (.ireturn, 1) := by decide +kernel
theorem dX6_share_0 : decode cX6_share 0 = .ok (.aload_n 0, 1) := by decide +kernel
theorem dX6_share_1 : decode cX6_share 1 = .ok (.iload_n 1, 1) := by decide +kernel
theorem dX6_share_2 : decode cX6_share 2 = .ok (.iload_n 2, 1) := by decide +kernel
theorem dX6_share_3 : decode cX6_share 3 = .ok (.iload_n 3, 1) := by decide +kernel
theorem dX6_share_4 : decode cX6_share 4 = .ok (.invokevirtual 101, 3) := by decide +kernel
theorem dX6_share_7 : decode cX6_share 7 = .ok (.astore 4, 2) := by decide +kernel
theorem dX6_share_9 : decode cX6_share 9 = .ok (.aload_n 0, 1) := by decide +kernel
theorem dX6_share_10 : decode cX6_share 10 = .ok (.getfield 30, 3) := by decide +kernel
theorem dX6_share_13 : decode cX6_share 13 = .ok (.aload 4, 2) := by decide +kernel
theorem dX6_share_15 : decode cX6_share 15 = .ok (.invokevirtual 240, 3) := by decide +kernel
theorem dX6_share_18 : decode cX6_share 18 = .ok (.invokestatic 249, 3) := by decide +kernel
theorem dX6_share_21 : decode cX6_share 21 = .ok (.istore 5, 2) := by decide +kernel
theorem dX6_share_23 : decode cX6_share 23 = .ok (.aload_n 0, 1) := by decide +kernel
theorem dX6_share_24 : decode cX6_share 24 = .ok (.getfield 30, 3) := by decide +kernel
theorem dX6_share_27 : decode cX6_share 27 = .ok (.aload 4, 2) := by decide +kernel
theorem dX6_share_29 : decode cX6_share 29 = .ok (.iload_n 2, 1) := by decide +kernel
theorem dX6_share_30 : decode cX6_share 30 = .ok (.iload_n 3, 1) := by decide +kernel
theorem dX6_share_31 : decode cX6_share 31 = .ok (.invokevirtual 243, 3) := by decide +kernel
theorem dX6_share_34 : decode cX6_share 34 = .ok (.i2f, 1) := by decide +kernel
theorem dX6_share_35 : decode cX6_share 35 = .ok (.iload 5, 2) := by decide +kernel
theorem dX6_share_37 : decode cX6_share 37 = .ok (.i2f, 1) := by decide +kernel
theorem dX6_share_38 : decode cX6_share 38 = .ok (.fdiv, 1) := by decide +kernel
theorem dX6_share_39 : decode cX6_share 39 = .ok (.freturn, 1) := by decide +kernel
theorem dX6_copy_0 : decode cX6_copy 0 = .ok (.aload_n 0, 1) := by decide +kernel
theorem dX6_copy_1 : decode cX6_copy 1 = .ok (.iload_n 1, 1) := by decide +kernel
theorem dX6_copy_2 : decode cX6_copy 2 = .ok (.invokevirtual 48, 3) := by decide +kernel
theorem dX6_copy_5 : decode cX6_copy 5 = .ok (.astore_n 3, 1) := by decide +kernel
theorem dX6_copy_6 : decode cX6_copy 6 = .ok (.aload_n 0, 1) := by decide +kernel
theorem dX6_copy_7 : decode cX6_copy 7 = .ok (.iload_n 2, 1) := by decide +kernel
theorem dX6_copy_8 : decode cX6_copy 8 = .ok (.invokevirtual 48, 3) := by decide +kernel
theorem dX6_copy_11 : decode cX6_copy 11 = .ok (.astore 4, 2) := by decide +kernel
theorem dX6_copy_13 : decode cX6_copy 13 = .ok (.aload 4, 2) := by decide +kernel
theorem dX6_copy_15 : decode cX6_copy 15 = .ok (.aload_n 3, 1) := by decide +kernel
theorem dX6_copy_16 : decode cX6_copy 16 = .ok (.invokevirtual 132, 3) := by decide +kernel
theorem dX6_copy_19 : decode cX6_copy 19 = .ok (.aload 4, 2) := by decide +kernel
theorem dX6_copy_21 : decode cX6_copy 21 = .ok (.getfield 56, 3) := by decide +kernel
theorem dX6_copy_24 : decode cX6_copy 24 = .ok (.ireturn, 1) := by decide +kernel
theorem dX6_sign_0 : decode cX6_sign 0 = .ok (.aload_n 0, 1) := by decide +kernel
theorem dX6_sign_1 : decode cX6_sign 1 = .ok (.iload_n 1, 1) := by decide +kernel
theorem dX6_sign_2 : decode cX6_sign 2 = .ok (.iload_n 2, 1) := by decide +kernel
theorem dX6_sign_3 : decode cX6_sign 3 = .ok (.iload_n 3, 1) := by decide +kernel
theorem dX6_sign_4 : decode cX6_sign 4 = .ok (.invokevirtual 101, 3) := by decide +kernel
theorem dX6_sign_7 : decode cX6_sign 7 = .ok (.astore 4, 2) := by decide +kernel
theorem dX6_sign_9 : decode cX6_sign 9 = .ok (.iload_n 2, 1) := by decide +kernel
theorem dX6_sign_10 : decode cX6_sign 10 = .ok (.iload_n 3, 1) := by decide +kernel
theorem dX6_sign_11 : decode cX6_sign 11 = .ok (.if_icmp .ne 6, 3) := by decide +kernel
theorem dX6_sign_14 : decode cX6_sign 14 = .ok (.bipush 61, 2) := by decide +kernel
theorem dX6_sign_16 : decode cX6_sign 16 = .ok (.ireturn, 1) := by decide +kernel
theorem dX6_sign_17 : decode cX6_sign 17 = .ok (.aload 4, 2) := by decide +kernel
theorem dX6_sign_19 : decode cX6_sign 19 = .ok (.iload_n 2, 1) := by decide +kernel
theorem dX6_sign_20 : decode cX6_sign 20 = .ok (.iload_n 3, 1) := by decide +kernel
theorem dX6_sign_21 : decode cX6_sign 21 = .ok (.invokevirtual 146, 3) := by decide +kernel
theorem dX6_sign_24 : decode cX6_sign 24 = .ok (.ifCond .eq 6, 3) := by decide +kernel
theorem dX6_sign_27 : decode cX6_sign 27 = .ok (.bipush 60, 2) := by decide +kernel
theorem dX6_sign_29 : decode cX6_sign 29 = .ok (.ireturn, 1) := by decide +kernel
theorem dX6_sign_30 : decode cX6_sign 30 = .ok (.aload 4, 2) := by decide +kernel
theorem dX6_sign_32 : decode cX6_sign 32 = .ok (.iload_n 3, 1) := by decide +kernel
theorem dX6_sign_33 : decode cX6_sign 33 = .ok (.iload_n 2, 1) := by decide +kernel
theorem dX6_sign_34 : decode cX6_sign 34 = .ok (.invokevirtual 146, 3) := by decide +kernel
theorem dX6_sign_37 : decode cX6_sign 37 = .ok (.ifCond .eq 8, 3) := by decide +kernel
theorem dX6_sign_40 : decode cX6_sign 40 = .ok (.bipush 62, 2) := by decide +kernel
theorem dX6_sign_42 : decode cX6_sign 42 = .ok (.goto 5, 3) := by decide +kernel
theorem dX6_sign_45 : decode cX6_sign 45 = .ok (.bipush 124, 2) := by decide +kernel
theorem dX6_sign_47 : decode cX6_sign 47 = .ok (.ireturn, 1) := by decide +kernel
theorem dX6_meet_0 : decode cX6_meet 0 = .ok (.aload_n 0, 1) := by decide +kernel
theorem dX6_meet_1 : decode cX6_meet 1 = .ok (.iload_n 1, 1) := by decide +kernel
theorem dX6_meet_2 : decode cX6_meet 2 = .ok (.invokevirtual 48, 3) := by decide +kernel
theorem dX6_meet_5 : decode cX6_meet 5 = .ok (.astore 4, 2) := by decide +kernel
theorem dX6_meet_7 : decode cX6_meet 7 = .ok (.aload_n 0, 1) := by decide +kernel
theorem dX6_meet_8 : decode cX6_meet 8 = .ok (.iload_n 2, 1) := by decide +kernel
theorem dX6_meet_9 : decode cX6_meet 9 = .ok (.invokevirtual 48, 3) := by decide +kernel
theorem dX6_meet_12 : decode cX6_meet 12 = .ok (.astore 5, 2) := by decide +kernel
theorem dX6_meet_14 : decode cX6_meet 14 = .ok (.aload_n 0, 1) := by decide +kernel
theorem dX6_meet_15 : decode cX6_meet 15 = .ok (.iload_n 3, 1) := by decide +kernel
theorem dX6_meet_16 : decode cX6_meet 16 = .ok (.invokevirtual 48, 3) := by decide +kernel
theorem dX6_meet_19 : decode cX6_meet 19 = .ok (.astore 6, 2) := by decide +kernel
theorem dX6_meet_21 : decode cX6_meet 21 = .ok (.aload 4, 2) := by decide +kernel
theorem dX6_meet_23 : decode cX6_meet 23 = .ok (.getfield 56, 3) := by decide +kernel
theorem dX6_meet_26 : decode cX6_meet 26 = .ok (.aload 5, 2) := by decide +kernel
theorem dX6_meet_28 : decode cX6_meet 28 = .ok (.getfield 56, 3) := by decide +kernel
theorem dX6_meet_31 : decode cX6_meet 31 = .ok (.if_icmp .eq 6, 3) := by decide +kernel
theorem dX6_meet_34 : decode cX6_meet 34 = .ok (.bipush (-9), 2) := by decide +kernel
theorem dX6_meet_36 : decode cX6_meet 36 = .ok (.ireturn, 1) := by decide +kernel
theorem dX6_meet_37 : decode cX6_meet 37 = .ok (.aload_n 0, 1) := by decide +kernel
theorem dX6_meet_38 : decode cX6_meet 38 = .ok (.getfield 16, 3) := by decide +kernel
theorem dX6_meet_41 : decode cX6_meet 41 = .ok (.aload 4, 2) := by decide +kernel
theorem dX6_meet_43 : decode cX6_meet 43 = .ok (.aload 5, 2) := by decide +kernel
theorem dX6_meet_45 : decode cX6_meet 45 = .ok (.invokevirtual 139, 3) := by decide +kernel
theorem dX6_meet_48 : decode cX6_meet 48 = .ok (.aload 6, 2) := by decide +kernel
theorem dX6_meet_50 : decode cX6_meet 50 = .ok (.aload_n 0, 1) := by decide +kernel
theorem dX6_meet_51 : decode cX6_meet 51 = .ok (.getfield 16, 3) := by decide +kernel
theorem dX6_meet_54 : decode cX6_meet 54 = .ok (.invokevirtual 132, 3) := by decide +kernel
theorem dX6_meet_57 : decode cX6_meet 57 = .ok (.aload 6, 2) := by decide +kernel
theorem dX6_meet_59 : decode cX6_meet 59 = .ok (.invokevirtual 66, 3) := by decide +kernel
theorem dX6_meet_62 : decode cX6_meet 62 = .ok (.ireturn, 1) := by decide +kernel
theorem dX6_shared_0 : decode cX6_shared 0 = .ok (.aload_n 0, 1) := by decide +kernel
theorem dX6_shared_1 : decode cX6_shared 1 = .ok (.iload_n 1, 1) := by decide +kernel
theorem dX6_shared_2 : decode cX6_shared 2 = .ok (.invokevirtual 48, 3) := by decide +kernel
theorem dX6_shared_5 : decode cX6_shared 5 = .ok (.astore_n 3, 1) := by decide +kernel
theorem dX6_shared_6 : decode cX6_shared 6 = .ok (.aload_n 0, 1) := by decide +kernel
theorem dX6_shared_7 : decode cX6_shared 7 = .ok (.iload_n 2, 1) := by decide +kernel
theorem dX6_shared_8 : decode cX6_shared 8 = .ok (.invokevirtual 48, 3) := by decide +kernel
theorem dX6_shared_11 : decode cX6_shared 11 = .ok (.astore 4, 2) := by decide +kernel
theorem dX6_shared_13 : decode cX6_shared 13 = .ok (.aload_n 3, 1) := by decide +kernel
theorem dX6_shared_14 : decode cX6_shared 14 = .ok (.getfield 56, 3) := by decide +kernel
theorem dX6_shared_17 : decode cX6_shared 17 = .ok (.aload 4, 2) := by decide +kernel
theorem dX6_shared_19 : decode cX6_shared 19 = .ok (.getfield 56, 3) := by decide +kernel
theorem dX6_shared_22 : decode cX6_shared 22 = .ok (.if_icmp .ne 12, 3) := by decide +kernel
theorem dX6_shared_25 : decode cX6_shared 25 = .ok (.aload_n 3, 1) := by decide +kernel
theorem dX6_shared_26 : decode cX6_shared 26 = .ok (.aload 4, 2) := by decide +kernel
theorem dX6_shared_28 : decode cX6_shared 28 = .ok (.invokestatic 227, 3) := by decide +kernel
theorem dX6_shared_31 : decode cX6_shared 31 = .ok (.goto 5, 3) := by decide +kernel
theorem dX6_shared_34 : decode cX6_shared 34 = .ok (.bipush (-9), 2) := by decide +kernel
theorem dX6_shared_36 : decode cX6_shared 36 = .ok (.ireturn, 1) := by decide +kernel
theorem dX6_placeOf_0 : decode cX6_placeOf 0 = .ok (.aload_n 0, 1) := by decide +kernel
theorem dX6_placeOf_1 : decode cX6_placeOf 1 = .ok (.iload_n 1, 1) := by decide +kernel
theorem dX6_placeOf_2 : decode cX6_placeOf 2 = .ok (.iload_n 2, 1) := by decide +kernel
theorem dX6_placeOf_3 : decode cX6_placeOf 3 = .ok (.invokevirtual 98, 3) := by decide +kernel
theorem dX6_placeOf_6 : decode cX6_placeOf 6 = .ok (.astore_n 3, 1) := by decide +kernel
theorem dX6_placeOf_7 : decode cX6_placeOf 7 = .ok (.aload_n 3, 1) := by decide +kernel
theorem dX6_placeOf_8 : decode cX6_placeOf 8 = .ok (.iload_n 2, 1) := by decide +kernel
theorem dX6_placeOf_9 : decode cX6_placeOf 9 = .ok (.invokevirtual 204, 3) := by decide +kernel
theorem dX6_placeOf_12 : decode cX6_placeOf 12 = .ok (.ifCond .eq 11, 3) := by decide +kernel
theorem dX6_placeOf_15 : decode cX6_placeOf 15 = .ok (.aload_n 3, 1) := by decide +kernel
theorem dX6_placeOf_16 : decode cX6_placeOf 16 = .ok (.iload_n 2, 1) := by decide +kernel
theorem dX6_placeOf_17 : decode cX6_placeOf 17 = .ok (.invokestatic 207, 3) := by decide +kernel
theorem dX6_placeOf_20 : decode cX6_placeOf 20 = .ok (.goto 4, 3) := by decide +kernel
theorem dX6_placeOf_23 : decode cX6_placeOf 23 = .ok (.iconst (-1), 1) := by decide +kernel
theorem dX6_placeOf_24 : decode cX6_placeOf 24 = .ok (.ireturn, 1) := by decide +kernel
theorem dX6_setValue_0 : decode cX6_setValue 0 = .ok (.aload_n 0, 1) := by decide +kernel
theorem dX6_setValue_1 : decode cX6_setValue 1 = .ok (.iload_n 1, 1) := by decide +kernel
theorem dX6_setValue_2 : decode cX6_setValue 2 = .ok (.iload_n 2, 1) := by decide +kernel
theorem dX6_setValue_3 : decode cX6_setValue 3 = .ok (.invokevirtual 84, 3) := by decide +kernel
theorem dX6_setValue_6 : decode cX6_setValue 6 = .ok (.astore 4, 2) := by decide +kernel
theorem dX6_setValue_8 : decode cX6_setValue 8 = .ok (.iload_n 3, 1) := by decide +kernel
theorem dX6_setValue_9 : decode cX6_setValue 9 = .ok (.invokestatic 70, 3) := by decide +kernel
theorem dX6_setValue_12 : decode cX6_setValue 12 = .ok (.aload 4, 2) := by decide +kernel
theorem dX6_setValue_14 : decode cX6_setValue 14 = .ok (.getfield 88, 3) := by decide +kernel
theorem dX6_setValue_17 : decode cX6_setValue 17 = .ok (.iload_n 2, 1) := by decide +kernel
theorem dX6_setValue_18 : decode cX6_setValue 18 = .ok (.iaload, 1) := by decide +kernel
theorem dX6_setValue_19 : decode cX6_setValue 19 = .ok (.istore 5, 2) := by decide +kernel
theorem dX6_setValue_21 : decode cX6_setValue 21 = .ok (.aload 4, 2) := by decide +kernel
theorem dX6_setValue_23 : decode cX6_setValue 23 = .ok (.getfield 88, 3) := by decide +kernel
theorem dX6_setValue_26 : decode cX6_setValue 26 = .ok (.iload_n 2, 1) := by decide +kernel
theorem dX6_setValue_27 : decode cX6_setValue 27 = .ok (.iload_n 3, 1) := by decide +kernel
theorem dX6_setValue_28 : decode cX6_setValue 28 = .ok (.iastore, 1) := by decide +kernel
theorem dX6_setValue_29 : decode cX6_setValue 29 = .ok (.iload 5, 2) := by decide +kernel
theorem dX6_setValue_31 : decode cX6_setValue 31 = .ok (.ireturn, 1) := by decide +kernel
theorem dX6_isSame_0 : decode cX6_isSame 0 = .ok (.aload_n 0, 1) := by decide +kernel
theorem dX6_isSame_1 : decode cX6_isSame 1 = .ok (.iload_n 1, 1) := by decide +kernel
theorem dX6_isSame_2 : decode cX6_isSame 2 = .ok (.invokevirtual 48, 3) := by decide +kernel
theorem dX6_isSame_5 : decode cX6_isSame 5 = .ok (.astore_n 3, 1) := by decide +kernel
theorem dX6_isSame_6 : decode cX6_isSame 6 = .ok (.aload_n 0, 1) := by decide +kernel
theorem dX6_isSame_7 : decode cX6_isSame 7 = .ok (.iload_n 2, 1) := by decide +kernel
theorem dX6_isSame_8 : decode cX6_isSame 8 = .ok (.invokevirtual 48, 3) := by decide +kernel
theorem dX6_isSame_11 : decode cX6_isSame 11 = .ok (.astore 4, 2) := by decide +kernel
theorem dX6_isSame_13 : decode cX6_isSame 13 = .ok (.aload_n 3, 1) := by decide +kernel
theorem dX6_isSame_14 : decode cX6_isSame 14 = .ok (.aload 4, 2) := by decide +kernel
theorem dX6_isSame_16 : decode cX6_isSame 16 = .ok (.invokevirtual 161, 3) := by decide +kernel
theorem dX6_isSame_19 : decode cX6_isSame 19 = .ok (.ireturn, 1) := by decide +kernel
theorem dX6_closed_0 : decode cX6_closed 0 = .ok (.aload_n 0, 1) := by decide +kernel
theorem dX6_closed_1 : decode cX6_closed 1 = .ok (.iload_n 1, 1) := by decide +kernel
theorem dX6_closed_2 : decode cX6_closed 2 = .ok (.iload_n 2, 1) := by decide +kernel
theorem dX6_closed_3 : decode cX6_closed 3 = .ok (.invokevirtual 98, 3) := by decide +kernel
theorem dX6_closed_6 : decode cX6_closed 6 = .ok (.iload_n 2, 1) := by decide +kernel
theorem dX6_closed_7 : decode cX6_closed 7 = .ok (.invokevirtual 221, 3) := by decide +kernel
theorem dX6_closed_10 : decode cX6_closed 10 = .ok (.ireturn, 1) := by decide +kernel
theorem dX6_turn_0 : decode cX6_turn 0 = .ok (.aload_n 0, 1) := by decide +kernel
theorem dX6_turn_1 : decode cX6_turn 1 = .ok (.iload_n 1, 1) := by decide +kernel
theorem dX6_turn_2 : decode cX6_turn 2 = .ok (.invokevirtual 48, 3) := by decide +kernel
theorem dX6_turn_5 : decode cX6_turn 5 = .ok (.astore_n 2, 1) := by decide +kernel
theorem dX6_turn_6 : decode cX6_turn 6 = .ok (.aload_n 0, 1) := by decide +kernel
theorem dX6_turn_7 : decode cX6_turn 7 = .ok (.getfield 16, 3) := by decide +kernel
theorem dX6_turn_10 : decode cX6_turn 10 = .ok (.aload_n 2, 1) := by decide +kernel
theorem dX6_turn_11 : decode cX6_turn 11 = .ok (.invokevirtual 128, 3) := by decide +kernel
theorem dX6_turn_14 : decode cX6_turn 14 = .ok (.aload_n 2, 1) := by decide +kernel
theorem dX6_turn_15 : decode cX6_turn 15 = .ok (.aload_n 0, 1) := by decide +kernel
theorem dX6_turn_16 : decode cX6_turn 16 = .ok (.getfield 16, 3) := by decide +kernel
theorem dX6_turn_19 : decode cX6_turn 19 = .ok (.invokevirtual 132, 3) := by decide +kernel
theorem dX6_turn_22 : decode cX6_turn 22 = .ok (.aload_n 2, 1) := by decide +kernel
theorem dX6_turn_23 : decode cX6_turn 23 = .ok (.invokevirtual 66, 3) := by decide +kernel
theorem dX6_turn_26 : decode cX6_turn 26 = .ok (.ireturn, 1) := by decide +kernel
theorem dX6_setsOf_0 : decode cX6_setsOf 0 = .ok (.aload_n 0, 1) := by decide +kernel
theorem dX6_setsOf_1 : decode cX6_setsOf 1 = .ok (.iload_n 1, 1) := by decide +kernel
theorem dX6_setsOf_2 : decode cX6_setsOf 2 = .ok (.invokevirtual 48, 3) := by decide +kernel
theorem dX6_setsOf_5 : decode cX6_setsOf 5 = .ok (.iload_n 2, 1) := by decide +kernel
theorem dX6_setsOf_6 : decode cX6_setsOf 6 = .ok (.invokestatic 193, 3) := by decide +kernel
theorem dX6_setsOf_9 : decode cX6_setsOf 9 = .ok (.ireturn, 1) := by decide +kernel
theorem dX6_isApart_0 : decode cX6_isApart 0 = .ok (.aload_n 0, 1) := by decide +kernel
theorem dX6_isApart_1 : decode cX6_isApart 1 = .ok (.iload_n 1, 1) := by decide +kernel
theorem dX6_isApart_2 : decode cX6_isApart 2 = .ok (.iload_n 2, 1) := by decide +kernel
theorem dX6_isApart_3 : decode cX6_isApart 3 = .ok (.invokevirtual 98, 3) := by decide +kernel
theorem dX6_isApart_6 : decode cX6_isApart 6 = .ok (.iload_n 2, 1) := by decide +kernel
theorem dX6_isApart_7 : decode cX6_isApart 7 = .ok (.invokevirtual 169, 3) := by decide +kernel
theorem dX6_isApart_10 : decode cX6_isApart 10 = .ok (.ireturn, 1) := by decide +kernel
theorem dX6_drop_0 : decode cX6_drop 0 = .ok (.aload_n 0, 1) := by decide +kernel
theorem dX6_drop_1 : decode cX6_drop 1 = .ok (.iload_n 1, 1) := by decide +kernel
theorem dX6_drop_2 : decode cX6_drop 2 = .ok (.iload_n 2, 1) := by decide +kernel
theorem dX6_drop_3 : decode cX6_drop 3 = .ok (.invokevirtual 84, 3) := by decide +kernel
theorem dX6_drop_6 : decode cX6_drop 6 = .ok (.astore_n 3, 1) := by decide +kernel
theorem dX6_drop_7 : decode cX6_drop 7 = .ok (.aload_n 3, 1) := by decide +kernel
theorem dX6_drop_8 : decode cX6_drop 8 = .ok (.getfield 88, 3) := by decide +kernel
theorem dX6_drop_11 : decode cX6_drop 11 = .ok (.iload_n 2, 1) := by decide +kernel
theorem dX6_drop_12 : decode cX6_drop 12 = .ok (.iaload, 1) := by decide +kernel
theorem dX6_drop_13 : decode cX6_drop 13 = .ok (.istore 4, 2) := by decide +kernel
theorem dX6_drop_15 : decode cX6_drop 15 = .ok (.aload_n 3, 1) := by decide +kernel
theorem dX6_drop_16 : decode cX6_drop 16 = .ok (.aload_n 3, 1) := by decide +kernel
theorem dX6_drop_17 : decode cX6_drop 17 = .ok (.invokevirtual 92, 3) := by decide +kernel
theorem dX6_drop_20 : decode cX6_drop 20 = .ok (.iconst 1, 1) := by decide +kernel
theorem dX6_drop_21 : decode cX6_drop 21 = .ok (.iload_n 2, 1) := by decide +kernel
theorem dX6_drop_22 : decode cX6_drop 22 = .ok (.ishl, 1) := by decide +kernel
theorem dX6_drop_23 : decode cX6_drop 23 = .ok (.iconst (-1), 1) := by decide +kernel
theorem dX6_drop_24 : decode cX6_drop 24 = .ok (.ixor, 1) := by decide +kernel
theorem dX6_drop_25 : decode cX6_drop 25 = .ok (.iand, 1) := by decide +kernel
theorem dX6_drop_26 : decode cX6_drop 26 = .ok (.invokevirtual 95, 3) := by decide +kernel
theorem dX6_drop_29 : decode cX6_drop 29 = .ok (.iload 4, 2) := by decide +kernel
theorem dX6_drop_31 : decode cX6_drop 31 = .ok (.ireturn, 1) := by decide +kernel
theorem dX6_lay_0 : decode cX6_lay 0 = .ok (.aload_n 0, 1) := by decide +kernel
theorem dX6_lay_1 : decode cX6_lay 1 = .ok (.iload_n 1, 1) := by decide +kernel
theorem dX6_lay_2 : decode cX6_lay 2 = .ok (.invokevirtual 48, 3) := by decide +kernel
theorem dX6_lay_5 : decode cX6_lay 5 = .ok (.astore_n 3, 1) := by decide +kernel
theorem dX6_lay_6 : decode cX6_lay 6 = .ok (.iload_n 2, 1) := by decide +kernel
theorem dX6_lay_7 : decode cX6_lay 7 = .ok (.invokestatic 52, 3) := by decide +kernel
theorem dX6_lay_10 : decode cX6_lay 10 = .ok (.aload_n 3, 1) := by decide +kernel
theorem dX6_lay_11 : decode cX6_lay 11 = .ok (.getfield 56, 3) := by decide +kernel
theorem dX6_lay_14 : decode cX6_lay 14 = .ok (.istore 4, 2) := by decide +kernel
theorem dX6_lay_16 : decode cX6_lay 16 = .ok (.aload_n 3, 1) := by decide +kernel
theorem dX6_lay_17 : decode cX6_lay 17 = .ok (.iload_n 2, 1) := by decide +kernel
theorem dX6_lay_18 : decode cX6_lay 18 = .ok (.invokevirtual 60, 3) := by decide +kernel
theorem dX6_lay_21 : decode cX6_lay 21 = .ok (.iload 4, 2) := by decide +kernel
theorem dX6_lay_23 : decode cX6_lay 23 = .ok (.ireturn, 1) := by decide +kernel
theorem dX6_lower_0 : decode cX6_lower 0 = .ok (.aload_n 0, 1) := by decide +kernel
theorem dX6_lower_1 : decode cX6_lower 1 = .ok (.iload_n 1, 1) := by decide +kernel
theorem dX6_lower_2 : decode cX6_lower 2 = .ok (.iload_n 2, 1) := by decide +kernel
theorem dX6_lower_3 : decode cX6_lower 3 = .ok (.invokevirtual 84, 3) := by decide +kernel
theorem dX6_lower_6 : decode cX6_lower 6 = .ok (.getfield 149, 3) := by decide +kernel
theorem dX6_lower_9 : decode cX6_lower 9 = .ok (.iload_n 2, 1) := by decide +kernel
theorem dX6_lower_10 : decode cX6_lower 10 = .ok (.iaload, 1) := by decide +kernel
theorem dX6_lower_11 : decode cX6_lower 11 = .ok (.ireturn, 1) := by decide +kernel
theorem dX6_above_0 : decode cX6_above 0 = .ok (.aload_n 0, 1) := by decide +kernel
theorem dX6_above_1 : decode cX6_above 1 = .ok (.iload_n 1, 1) := by decide +kernel
theorem dX6_above_2 : decode cX6_above 2 = .ok (.iload_n 2, 1) := by decide +kernel
theorem dX6_above_3 : decode cX6_above 3 = .ok (.iload_n 3, 1) := by decide +kernel
theorem dX6_above_4 : decode cX6_above 4 = .ok (.iconst 1, 1) := by decide +kernel
theorem dX6_above_5 : decode cX6_above 5 = .ok (.invokevirtual 135, 3) := by decide +kernel
theorem dX6_above_8 : decode cX6_above 8 = .ok (.invokevirtual 66, 3) := by decide +kernel
theorem dX6_above_11 : decode cX6_above 11 = .ok (.ireturn, 1) := by decide +kernel
theorem dX6_near_0 : decode cX6_near 0 = .ok (.aload_n 0, 1) := by decide +kernel
theorem dX6_near_1 : decode cX6_near 1 = .ok (.iload_n 1, 1) := by decide +kernel
theorem dX6_near_2 : decode cX6_near 2 = .ok (.iload_n 2, 1) := by decide +kernel
theorem dX6_near_3 : decode cX6_near 3 = .ok (.invokevirtual 98, 3) := by decide +kernel
theorem dX6_near_6 : decode cX6_near 6 = .ok (.astore 4, 2) := by decide +kernel
theorem dX6_near_8 : decode cX6_near 8 = .ok (.iload_n 3, 1) := by decide +kernel
theorem dX6_near_9 : decode cX6_near 9 = .ok (.tableswitch 109 99 108 #[82, 109, 109, 62, 109, 102, 109, 109, 109, 55], 55) := by decide +kernel
theorem dX6_near_64 : decode cX6_near 64 = .ok (.aload 4, 2) := by decide +kernel
theorem dX6_near_66 : decode cX6_near 66 = .ok (.iload_n 2, 1) := by decide +kernel
theorem dX6_near_67 : decode cX6_near 67 = .ok (.invokestatic 210, 3) := by decide +kernel
theorem dX6_near_70 : decode cX6_near 70 = .ok (.ireturn, 1) := by decide +kernel
theorem dX6_near_71 : decode cX6_near 71 = .ok (.aload 4, 2) := by decide +kernel
theorem dX6_near_73 : decode cX6_near 73 = .ok (.iload_n 2, 1) := by decide +kernel
theorem dX6_near_74 : decode cX6_near 74 = .ok (.invokevirtual 204, 3) := by decide +kernel
theorem dX6_near_77 : decode cX6_near 77 = .ok (.ifCond .eq 7, 3) := by decide +kernel
theorem dX6_near_80 : decode cX6_near 80 = .ok (.iload_n 2, 1) := by decide +kernel
theorem dX6_near_81 : decode cX6_near 81 = .ok (.goto 9, 3) := by decide +kernel
theorem dX6_near_84 : decode cX6_near 84 = .ok (.aload 4, 2) := by decide +kernel
theorem dX6_near_86 : decode cX6_near 86 = .ok (.iload_n 2, 1) := by decide +kernel
theorem dX6_near_87 : decode cX6_near 87 = .ok (.invokestatic 210, 3) := by decide +kernel
theorem dX6_near_90 : decode cX6_near 90 = .ok (.ireturn, 1) := by decide +kernel
theorem dX6_near_91 : decode cX6_near 91 = .ok (.aload 4, 2) := by decide +kernel
theorem dX6_near_93 : decode cX6_near 93 = .ok (.iload_n 2, 1) := by decide +kernel
theorem dX6_near_94 : decode cX6_near 94 = .ok (.invokevirtual 204, 3) := by decide +kernel
theorem dX6_near_97 : decode cX6_near 97 = .ok (.ifCond .eq 7, 3) := by decide +kernel
theorem dX6_near_100 : decode cX6_near 100 = .ok (.iload_n 2, 1) := by decide +kernel
theorem dX6_near_101 : decode cX6_near 101 = .ok (.goto 9, 3) := by decide +kernel
theorem dX6_near_104 : decode cX6_near 104 = .ok (.aload 4, 2) := by decide +kernel
theorem dX6_near_106 : decode cX6_near 106 = .ok (.iload_n 2, 1) := by decide +kernel
theorem dX6_near_107 : decode cX6_near 107 = .ok (.invokestatic 213, 3) := by decide +kernel
theorem dX6_near_110 : decode cX6_near 110 = .ok (.ireturn, 1) := by decide +kernel
theorem dX6_near_111 : decode cX6_near 111 = .ok (.aload 4, 2) := by decide +kernel
theorem dX6_near_113 : decode cX6_near 113 = .ok (.iload_n 2, 1) := by decide +kernel
theorem dX6_near_114 : decode cX6_near 114 = .ok (.invokestatic 213, 3) := by decide +kernel
theorem dX6_near_117 : decode cX6_near 117 = .ok (.ireturn, 1) := by decide +kernel
theorem dX6_near_118 : decode cX6_near 118 = .ok (.new 216, 3) := by decide +kernel
theorem dX6_near_121 : decode cX6_near 121 = .ok (.dup, 1) := by decide +kernel
theorem dX6_near_122 : decode cX6_near 122 = .ok (.ldc 218, 2) := by decide +kernel
theorem dX6_near_124 : decode cX6_near 124 = .ok (.invokespecial 220, 3) := by decide +kernel
theorem dX6_near_127 : decode cX6_near 127 = .ok (.athrow, 1) := by decide +kernel
theorem dX6_put_0 : decode cX6_put 0 = .ok (.aload_n 0, 1) := by decide +kernel
theorem dX6_put_1 : decode cX6_put 1 = .ok (.iload_n 1, 1) := by decide +kernel
theorem dX6_put_2 : decode cX6_put 2 = .ok (.iload_n 2, 1) := by decide +kernel
theorem dX6_put_3 : decode cX6_put 3 = .ok (.iload_n 3, 1) := by decide +kernel
theorem dX6_put_4 : decode cX6_put 4 = .ok (.invokevirtual 101, 3) := by decide +kernel
theorem dX6_put_7 : decode cX6_put 7 = .ok (.iload_n 2, 1) := by decide +kernel
theorem dX6_put_8 : decode cX6_put 8 = .ok (.iload_n 3, 1) := by decide +kernel
theorem dX6_put_9 : decode cX6_put 9 = .ok (.invokevirtual 105, 3) := by decide +kernel
theorem dX6_put_12 : decode cX6_put 12 = .ok (.ireturn, 1) := by decide +kernel
theorem dX6_things_0 : decode cX6_things 0 = .ok (.aload_n 0, 1) := by decide +kernel
theorem dX6_things_1 : decode cX6_things 1 = .ok (.iload_n 1, 1) := by decide +kernel
theorem dX6_things_2 : decode cX6_things 2 = .ok (.invokevirtual 48, 3) := by decide +kernel
theorem dX6_things_5 : decode cX6_things 5 = .ok (.getfield 56, 3) := by decide +kernel
theorem dX6_things_8 : decode cX6_things 8 = .ok (.ireturn, 1) := by decide +kernel
theorem dX6_rows_0 : decode cX6_rows 0 = .ok (.aload_n 0, 1) := by decide +kernel
theorem dX6_rows_1 : decode cX6_rows 1 = .ok (.getfield 30, 3) := by decide +kernel
theorem dX6_rows_4 : decode cX6_rows 4 = .ok (.aload_n 0, 1) := by decide +kernel
theorem dX6_rows_5 : decode cX6_rows 5 = .ok (.iload_n 1, 1) := by decide +kernel
theorem dX6_rows_6 : decode cX6_rows 6 = .ok (.invokevirtual 48, 3) := by decide +kernel
theorem dX6_rows_9 : decode cX6_rows 9 = .ok (.invokevirtual 231, 3) := by decide +kernel
theorem dX6_rows_12 : decode cX6_rows 12 = .ok (.ireturn, 1) := by decide +kernel
theorem dX6_isSound_0 : decode cX6_isSound 0 = .ok (.aload_n 0, 1) := by decide +kernel
theorem dX6_isSound_1 : decode cX6_isSound 1 = .ok (.getfield 44, 3) := by decide +kernel
theorem dX6_isSound_4 : decode cX6_isSound 4 = .ok (.aload_n 0, 1) := by decide +kernel
theorem dX6_isSound_5 : decode cX6_isSound 5 = .ok (.iload_n 1, 1) := by decide +kernel
theorem dX6_isSound_6 : decode cX6_isSound 6 = .ok (.invokevirtual 48, 3) := by decide +kernel
theorem dX6_isSound_9 : decode cX6_isSound 9 = .ok (.invokevirtual 264, 3) := by decide +kernel
theorem dX6_isSound_12 : decode cX6_isSound 12 = .ok (.ireturn, 1) := by decide +kernel
theorem dX6_widest_0 : decode cX6_widest 0 = .ok (.aload_n 0, 1) := by decide +kernel
theorem dX6_widest_1 : decode cX6_widest 1 = .ok (.iload_n 1, 1) := by decide +kernel
theorem dX6_widest_2 : decode cX6_widest 2 = .ok (.invokevirtual 48, 3) := by decide +kernel
theorem dX6_widest_5 : decode cX6_widest 5 = .ok (.invokestatic 176, 3) := by decide +kernel
theorem dX6_widest_8 : decode cX6_widest 8 = .ok (.ireturn, 1) := by decide +kernel
theorem dX6_pairs_0 : decode cX6_pairs 0 = .ok (.aload_n 0, 1) := by decide +kernel
theorem dX6_pairs_1 : decode cX6_pairs 1 = .ok (.iload_n 1, 1) := by decide +kernel
theorem dX6_pairs_2 : decode cX6_pairs 2 = .ok (.invokevirtual 48, 3) := by decide +kernel
theorem dX6_pairs_5 : decode cX6_pairs 5 = .ok (.invokevirtual 66, 3) := by decide +kernel
theorem dX6_pairs_8 : decode cX6_pairs 8 = .ok (.ireturn, 1) := by decide +kernel
theorem dX6_meanPlace_0 : decode cX6_meanPlace 0 = .ok (.aload_n 0, 1) := by decide +kernel
theorem dX6_meanPlace_1 : decode cX6_meanPlace 1 = .ok (.iload_n 1, 1) := by decide +kernel
theorem dX6_meanPlace_2 : decode cX6_meanPlace 2 = .ok (.iload_n 2, 1) := by decide +kernel
theorem dX6_meanPlace_3 : decode cX6_meanPlace 3 = .ok (.invokevirtual 84, 3) := by decide +kernel
theorem dX6_meanPlace_6 : decode cX6_meanPlace 6 = .ok (.astore_n 3, 1) := by decide +kernel
theorem dX6_meanPlace_7 : decode cX6_meanPlace 7 = .ok (.aload_n 0, 1) := by decide +kernel
theorem dX6_meanPlace_8 : decode cX6_meanPlace 8 = .ok (.getfield 30, 3) := by decide +kernel
theorem dX6_meanPlace_11 : decode cX6_meanPlace 11 = .ok (.aload_n 3, 1) := by decide +kernel
theorem dX6_meanPlace_12 : decode cX6_meanPlace 12 = .ok (.invokevirtual 240, 3) := by decide +kernel
theorem dX6_meanPlace_15 : decode cX6_meanPlace 15 = .ok (.invokestatic 249, 3) := by decide +kernel
theorem dX6_meanPlace_18 : decode cX6_meanPlace 18 = .ok (.istore 4, 2) := by decide +kernel
theorem dX6_meanPlace_20 : decode cX6_meanPlace 20 = .ok (.aload_n 0, 1) := by decide +kernel
theorem dX6_meanPlace_21 : decode cX6_meanPlace 21 = .ok (.getfield 30, 3) := by decide +kernel
theorem dX6_meanPlace_24 : decode cX6_meanPlace 24 = .ok (.aload_n 3, 1) := by decide +kernel
theorem dX6_meanPlace_25 : decode cX6_meanPlace 25 = .ok (.iload_n 2, 1) := by decide +kernel
theorem dX6_meanPlace_26 : decode cX6_meanPlace 26 = .ok (.invokevirtual 252, 3) := by decide +kernel
theorem dX6_meanPlace_29 : decode cX6_meanPlace 29 = .ok (.i2d, 1) := by decide +kernel
theorem dX6_meanPlace_30 : decode cX6_meanPlace 30 = .ok (.iload 4, 2) := by decide +kernel
theorem dX6_meanPlace_32 : decode cX6_meanPlace 32 = .ok (.i2d, 1) := by decide +kernel
theorem dX6_meanPlace_33 : decode cX6_meanPlace 33 = .ok (.ddiv, 1) := by decide +kernel
theorem dX6_meanPlace_34 : decode cX6_meanPlace 34 = .ok (.dreturn, 1) := by decide +kernel
theorem dX6_rowPlace_0 : decode cX6_rowPlace 0 = .ok (.aload_n 0, 1) := by decide +kernel
theorem dX6_rowPlace_1 : decode cX6_rowPlace 1 = .ok (.getfield 30, 3) := by decide +kernel
theorem dX6_rowPlace_4 : decode cX6_rowPlace 4 = .ok (.aload_n 0, 1) := by decide +kernel
theorem dX6_rowPlace_5 : decode cX6_rowPlace 5 = .ok (.iload_n 1, 1) := by decide +kernel
theorem dX6_rowPlace_6 : decode cX6_rowPlace 6 = .ok (.invokevirtual 48, 3) := by decide +kernel
theorem dX6_rowPlace_9 : decode cX6_rowPlace 9 = .ok (.iload_n 2, 1) := by decide +kernel
theorem dX6_rowPlace_10 : decode cX6_rowPlace 10 = .ok (.invokevirtual 235, 3) := by decide +kernel
theorem dX6_rowPlace_13 : decode cX6_rowPlace 13 = .ok (.ireturn, 1) := by decide +kernel
theorem dX6_keep_0 : decode cX6_keep 0 = .ok (.aload_n 0, 1) := by decide +kernel
theorem dX6_keep_1 : decode cX6_keep 1 = .ok (.iload_n 1, 1) := by decide +kernel
theorem dX6_keep_2 : decode cX6_keep 2 = .ok (.iload_n 2, 1) := by decide +kernel
theorem dX6_keep_3 : decode cX6_keep 3 = .ok (.invokevirtual 98, 3) := by decide +kernel
theorem dX6_keep_6 : decode cX6_keep 6 = .ok (.astore_n 3, 1) := by decide +kernel
theorem dX6_keep_7 : decode cX6_keep 7 = .ok (.aload_n 3, 1) := by decide +kernel
theorem dX6_keep_8 : decode cX6_keep 8 = .ok (.getfield 56, 3) := by decide +kernel
theorem dX6_keep_11 : decode cX6_keep 11 = .ok (.istore 4, 2) := by decide +kernel
theorem dX6_keep_13 : decode cX6_keep 13 = .ok (.aload_n 3, 1) := by decide +kernel
theorem dX6_keep_14 : decode cX6_keep 14 = .ok (.iload_n 2, 1) := by decide +kernel
theorem dX6_keep_15 : decode cX6_keep 15 = .ok (.invokevirtual 95, 3) := by decide +kernel
theorem dX6_keep_18 : decode cX6_keep 18 = .ok (.iload 4, 2) := by decide +kernel
theorem dX6_keep_20 : decode cX6_keep 20 = .ok (.aload_n 3, 1) := by decide +kernel
theorem dX6_keep_21 : decode cX6_keep 21 = .ok (.getfield 56, 3) := by decide +kernel
theorem dX6_keep_24 : decode cX6_keep 24 = .ok (.isub, 1) := by decide +kernel
theorem dX6_keep_25 : decode cX6_keep 25 = .ok (.ireturn, 1) := by decide +kernel
theorem dX6_rowAt_0 : decode cX6_rowAt 0 = .ok (.aload_n 0, 1) := by decide +kernel
theorem dX6_rowAt_1 : decode cX6_rowAt 1 = .ok (.iload_n 1, 1) := by decide +kernel
theorem dX6_rowAt_2 : decode cX6_rowAt 2 = .ok (.invokevirtual 48, 3) := by decide +kernel
theorem dX6_rowAt_5 : decode cX6_rowAt 5 = .ok (.astore_n 3, 1) := by decide +kernel
theorem dX6_rowAt_6 : decode cX6_rowAt 6 = .ok (.aload_n 0, 1) := by decide +kernel
theorem dX6_rowAt_7 : decode cX6_rowAt 7 = .ok (.aload_n 3, 1) := by decide +kernel
theorem dX6_rowAt_8 : decode cX6_rowAt 8 = .ok (.iload_n 2, 1) := by decide +kernel
theorem dX6_rowAt_9 : decode cX6_rowAt 9 = .ok (.invokevirtual 117, 3) := by decide +kernel
theorem dX6_rowAt_12 : decode cX6_rowAt 12 = .ok (.aload_n 0, 1) := by decide +kernel
theorem dX6_rowAt_13 : decode cX6_rowAt 13 = .ok (.getfield 30, 3) := by decide +kernel
theorem dX6_rowAt_16 : decode cX6_rowAt 16 = .ok (.aload_n 3, 1) := by decide +kernel
theorem dX6_rowAt_17 : decode cX6_rowAt 17 = .ok (.invokevirtual 232, 3) := by decide +kernel
theorem dX6_rowAt_20 : decode cX6_rowAt 20 = .ok (.ireturn, 1) := by decide +kernel
theorem dX6_level_0 : decode cX6_level 0 = .ok (.aload_n 0, 1) := by decide +kernel
theorem dX6_level_1 : decode cX6_level 1 = .ok (.iload_n 1, 1) := by decide +kernel
theorem dX6_level_2 : decode cX6_level 2 = .ok (.iload_n 2, 1) := by decide +kernel
theorem dX6_level_3 : decode cX6_level 3 = .ok (.invokevirtual 84, 3) := by decide +kernel
theorem dX6_level_6 : decode cX6_level 6 = .ok (.astore_n 3, 1) := by decide +kernel
theorem dX6_level_7 : decode cX6_level 7 = .ok (.aload_n 3, 1) := by decide +kernel
theorem dX6_level_8 : decode cX6_level 8 = .ok (.aload_n 3, 1) := by decide +kernel
theorem dX6_level_9 : decode cX6_level 9 = .ok (.getfield 149, 3) := by decide +kernel
theorem dX6_level_12 : decode cX6_level 12 = .ok (.iload_n 2, 1) := by decide +kernel
theorem dX6_level_13 : decode cX6_level 13 = .ok (.iaload, 1) := by decide +kernel
theorem dX6_level_14 : decode cX6_level 14 = .ok (.invokestatic 172, 3) := by decide +kernel
theorem dX6_level_17 : decode cX6_level 17 = .ok (.iconst 1, 1) := by decide +kernel
theorem dX6_level_18 : decode cX6_level 18 = .ok (.iadd, 1) := by decide +kernel
theorem dX6_level_19 : decode cX6_level 19 = .ok (.ireturn, 1) := by decide +kernel
