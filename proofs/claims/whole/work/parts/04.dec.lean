theorem dX3_setLimit_0 : decode cX3_setLimit 0 = .ok (.iconst 1, 1) := by decide +kernel
theorem dX3_setLimit_1 : decode cX3_setLimit 1 = .ok (.aload_n 0, 1) := by decide +kernel
theorem dX3_setLimit_2 : decode cX3_setLimit 2 = .ok (.getfield 22, 3) := by decide +kernel
theorem dX3_setLimit_5 : decode cX3_setLimit 5 = .ok (.ishl, 1) := by decide +kernel
theorem dX3_setLimit_6 : decode cX3_setLimit 6 = .ok (.ireturn, 1) := by decide +kernel
theorem dX6_isWithin_0 : decode cX6_isWithin 0 = .ok (.iload_n 0, 1) := by decide +kernel
theorem dX6_isWithin_1 : decode cX6_isWithin 1 = .ok (.iload_n 1, 1) := by decide +kernel
theorem dX6_isWithin_2 : decode cX6_isWithin 2 = .ok (.iconst (-1), 1) := by decide +kernel
theorem dX6_isWithin_3 : decode cX6_isWithin 3 = .ok (.ixor, 1) := by decide +kernel
theorem dX6_isWithin_4 : decode cX6_isWithin 4 = .ok (.iand, 1) := by decide +kernel
theorem dX6_isWithin_5 : decode cX6_isWithin 5 = .ok (.ifCond .ne 7, 3) := by decide +kernel
theorem dX6_isWithin_8 : decode cX6_isWithin 8 = .ok (.iconst 1, 1) := by decide +kernel
theorem dX6_isWithin_9 : decode cX6_isWithin 9 = .ok (.goto 4, 3) := by decide +kernel
theorem dX6_isWithin_12 : decode cX6_isWithin 12 = .ok (.iconst 0, 1) := by decide +kernel
theorem dX6_isWithin_13 : decode cX6_isWithin 13 = .ok (.ireturn, 1) := by decide +kernel
theorem dX6_has_0 : decode cX6_has 0 = .ok (.iload_n 0, 1) := by decide +kernel
theorem dX6_has_1 : decode cX6_has 1 = .ok (.iload_n 1, 1) := by decide +kernel
theorem dX6_has_2 : decode cX6_has 2 = .ok (.ishr, 1) := by decide +kernel
theorem dX6_has_3 : decode cX6_has 3 = .ok (.iconst 1, 1) := by decide +kernel
theorem dX6_has_4 : decode cX6_has 4 = .ok (.iand, 1) := by decide +kernel
theorem dX6_has_5 : decode cX6_has 5 = .ok (.ifCond .eq 7, 3) := by decide +kernel
theorem dX6_has_8 : decode cX6_has 8 = .ok (.iconst 1, 1) := by decide +kernel
theorem dX6_has_9 : decode cX6_has 9 = .ok (.goto 4, 3) := by decide +kernel
theorem dX6_has_12 : decode cX6_has 12 = .ok (.iconst 0, 1) := by decide +kernel
theorem dX6_has_13 : decode cX6_has 13 = .ok (.ireturn, 1) := by decide +kernel
theorem dJ6_bitCount_0f7a4_0 : decode cJ6_bitCount_0f7a4 0 = .ok (.iload_n 0, 1) := by decide +kernel
theorem dJ6_bitCount_0f7a4_1 : decode cJ6_bitCount_0f7a4 1 = .ok (.iload_n 0, 1) := by decide +kernel
theorem dJ6_bitCount_0f7a4_2 : decode cJ6_bitCount_0f7a4 2 = .ok (.iconst 1, 1) := by decide +kernel
theorem dJ6_bitCount_0f7a4_3 : decode cJ6_bitCount_0f7a4 3 = .ok (.iushr, 1) := by decide +kernel
theorem dJ6_bitCount_0f7a4_4 : decode cJ6_bitCount_0f7a4 4 = .ok (.ldc_w 265, 3) := by decide +kernel
theorem dJ6_bitCount_0f7a4_7 : decode cJ6_bitCount_0f7a4 7 = .ok (.iand, 1) := by decide +kernel
theorem dJ6_bitCount_0f7a4_8 : decode cJ6_bitCount_0f7a4 8 = .ok (.isub, 1) := by decide +kernel
theorem dJ6_bitCount_0f7a4_9 : decode cJ6_bitCount_0f7a4 9 = .ok (.istore_n 0, 1) := by decide +kernel
theorem dJ6_bitCount_0f7a4_10 : decode cJ6_bitCount_0f7a4 10 = .ok (.iload_n 0, 1) := by decide +kernel
theorem dJ6_bitCount_0f7a4_11 : decode cJ6_bitCount_0f7a4 11 = .ok (.ldc_w 266, 3) := by decide +kernel
theorem dJ6_bitCount_0f7a4_14 : decode cJ6_bitCount_0f7a4 14 = .ok (.iand, 1) := by decide +kernel
theorem dJ6_bitCount_0f7a4_15 : decode cJ6_bitCount_0f7a4 15 = .ok (.iload_n 0, 1) := by decide +kernel
theorem dJ6_bitCount_0f7a4_16 : decode cJ6_bitCount_0f7a4 16 = .ok (.iconst 2, 1) := by decide +kernel
theorem dJ6_bitCount_0f7a4_17 : decode cJ6_bitCount_0f7a4 17 = .ok (.iushr, 1) := by decide +kernel
theorem dJ6_bitCount_0f7a4_18 : decode cJ6_bitCount_0f7a4 18 = .ok (.ldc_w 266, 3) := by decide +kernel
theorem dJ6_bitCount_0f7a4_21 : decode cJ6_bitCount_0f7a4 21 = .ok (.iand, 1) := by decide +kernel
theorem dJ6_bitCount_0f7a4_22 : decode cJ6_bitCount_0f7a4 22 = .ok (.iadd, 1) := by decide +kernel
theorem dJ6_bitCount_0f7a4_23 : decode cJ6_bitCount_0f7a4 23 = .ok (.istore_n 0, 1) := by decide +kernel
theorem dJ6_bitCount_0f7a4_24 : decode cJ6_bitCount_0f7a4 24 = .ok (.iload_n 0, 1) := by decide +kernel
theorem dJ6_bitCount_0f7a4_25 : decode cJ6_bitCount_0f7a4 25 = .ok (.iload_n 0, 1) := by decide +kernel
theorem dJ6_bitCount_0f7a4_26 : decode cJ6_bitCount_0f7a4 26 = .ok (.iconst 4, 1) := by decide +kernel
theorem dJ6_bitCount_0f7a4_27 : decode cJ6_bitCount_0f7a4 27 = .ok (.iushr, 1) := by decide +kernel
theorem dJ6_bitCount_0f7a4_28 : decode cJ6_bitCount_0f7a4 28 = .ok (.iadd, 1) := by decide +kernel
theorem dJ6_bitCount_0f7a4_29 : decode cJ6_bitCount_0f7a4 29 = .ok (.ldc_w 267, 3) := by decide +kernel
theorem dJ6_bitCount_0f7a4_32 : decode cJ6_bitCount_0f7a4 32 = .ok (.iand, 1) := by decide +kernel
theorem dJ6_bitCount_0f7a4_33 : decode cJ6_bitCount_0f7a4 33 = .ok (.istore_n 0, 1) := by decide +kernel
theorem dJ6_bitCount_0f7a4_34 : decode cJ6_bitCount_0f7a4 34 = .ok (.iload_n 0, 1) := by decide +kernel
theorem dJ6_bitCount_0f7a4_35 : decode cJ6_bitCount_0f7a4 35 = .ok (.iload_n 0, 1) := by decide +kernel
theorem dJ6_bitCount_0f7a4_36 : decode cJ6_bitCount_0f7a4 36 = .ok (.bipush 8, 2) := by decide +kernel
theorem dJ6_bitCount_0f7a4_38 : decode cJ6_bitCount_0f7a4 38 = .ok (.iushr, 1) := by decide +kernel
theorem dJ6_bitCount_0f7a4_39 : decode cJ6_bitCount_0f7a4 39 = .ok (.iadd, 1) := by decide +kernel
theorem dJ6_bitCount_0f7a4_40 : decode cJ6_bitCount_0f7a4 40 = .ok (.istore_n 0, 1) := by decide +kernel
theorem dJ6_bitCount_0f7a4_41 : decode cJ6_bitCount_0f7a4 41 = .ok (.iload_n 0, 1) := by decide +kernel
theorem dJ6_bitCount_0f7a4_42 : decode cJ6_bitCount_0f7a4 42 = .ok (.iload_n 0, 1) := by decide +kernel
theorem dJ6_bitCount_0f7a4_43 : decode cJ6_bitCount_0f7a4 43 = .ok (.bipush 16, 2) := by decide +kernel
theorem dJ6_bitCount_0f7a4_45 : decode cJ6_bitCount_0f7a4 45 = .ok (.iushr, 1) := by decide +kernel
theorem dJ6_bitCount_0f7a4_46 : decode cJ6_bitCount_0f7a4 46 = .ok (.iadd, 1) := by decide +kernel
theorem dJ6_bitCount_0f7a4_47 : decode cJ6_bitCount_0f7a4 47 = .ok (.istore_n 0, 1) := by decide +kernel
theorem dJ6_bitCount_0f7a4_48 : decode cJ6_bitCount_0f7a4 48 = .ok (.iload_n 0, 1) := by decide +kernel
theorem dJ6_bitCount_0f7a4_49 : decode cJ6_bitCount_0f7a4 49 = .ok (.bipush 63, 2) := by decide +kernel
theorem dJ6_bitCount_0f7a4_51 : decode cJ6_bitCount_0f7a4 51 = .ok (.iand, 1) := by decide +kernel
theorem dJ6_bitCount_0f7a4_52 : decode cJ6_bitCount_0f7a4 52 = .ok (.ireturn, 1) := by decide +kernel
theorem dX3_isInLine_0 : decode cX3_isInLine 0 = .ok (.iconst 0, 1) := by decide +kernel
theorem dX3_isInLine_1 : decode cX3_isInLine 1 = .ok (.istore_n 2, 1) := by decide +kernel
theorem dX3_isInLine_2 : decode cX3_isInLine 2 = .ok (.iconst 0, 1) := by decide +kernel
theorem dX3_isInLine_3 : decode cX3_isInLine 3 = .ok (.istore_n 3, 1) := by decide +kernel
theorem dX3_isInLine_4 : decode cX3_isInLine 4 = .ok (.iload_n 3, 1) := by decide +kernel
theorem dX3_isInLine_5 : decode cX3_isInLine 5 = .ok (.aload_n 0, 1) := by decide +kernel
theorem dX3_isInLine_6 : decode cX3_isInLine 6 = .ok (.getfield 22, 3) := by decide +kernel
theorem dX3_isInLine_9 : decode cX3_isInLine 9 = .ok (.if_icmp .ge 31, 3) := by decide +kernel
theorem dX3_isInLine_12 : decode cX3_isInLine 12 = .ok (.iload_n 1, 1) := by decide +kernel
theorem dX3_isInLine_13 : decode cX3_isInLine 13 = .ok (.iload_n 3, 1) := by decide +kernel
theorem dX3_isInLine_14 : decode cX3_isInLine 14 = .ok (.invokestatic 30, 3) := by decide +kernel
theorem dX3_isInLine_17 : decode cX3_isInLine 17 = .ok (.ifCond .eq 17, 3) := by decide +kernel
theorem dX3_isInLine_20 : decode cX3_isInLine 20 = .ok (.iload_n 2, 1) := by decide +kernel
theorem dX3_isInLine_21 : decode cX3_isInLine 21 = .ok (.aload_n 0, 1) := by decide +kernel
theorem dX3_isInLine_22 : decode cX3_isInLine 22 = .ok (.getfield 9, 3) := by decide +kernel
theorem dX3_isInLine_25 : decode cX3_isInLine 25 = .ok (.iload_n 3, 1) := by decide +kernel
theorem dX3_isInLine_26 : decode cX3_isInLine 26 = .ok (.iaload, 1) := by decide +kernel
theorem dX3_isInLine_27 : decode cX3_isInLine 27 = .ok (.iload_n 1, 1) := by decide +kernel
theorem dX3_isInLine_28 : decode cX3_isInLine 28 = .ok (.iand, 1) := by decide +kernel
theorem dX3_isInLine_29 : decode cX3_isInLine 29 = .ok (.invokestatic 64, 3) := by decide +kernel
theorem dX3_isInLine_32 : decode cX3_isInLine 32 = .ok (.iadd, 1) := by decide +kernel
theorem dX3_isInLine_33 : decode cX3_isInLine 33 = .ok (.istore_n 2, 1) := by decide +kernel
theorem dX3_isInLine_34 : decode cX3_isInLine 34 = .ok (.iinc 3 1, 3) := by decide +kernel
theorem dX3_isInLine_37 : decode cX3_isInLine 37 = .ok (.goto (-33), 3) := by decide +kernel
theorem dX3_isInLine_40 : decode cX3_isInLine 40 = .ok (.iload_n 1, 1) := by decide +kernel
theorem dX3_isInLine_41 : decode cX3_isInLine 41 = .ok (.invokestatic 64, 3) := by decide +kernel
theorem dX3_isInLine_44 : decode cX3_isInLine 44 = .ok (.istore_n 3, 1) := by decide +kernel
theorem dX3_isInLine_45 : decode cX3_isInLine 45 = .ok (.iload_n 2, 1) := by decide +kernel
theorem dX3_isInLine_46 : decode cX3_isInLine 46 = .ok (.iload_n 3, 1) := by decide +kernel
theorem dX3_isInLine_47 : decode cX3_isInLine 47 = .ok (.iload_n 3, 1) := by decide +kernel
theorem dX3_isInLine_48 : decode cX3_isInLine 48 = .ok (.iconst 1, 1) := by decide +kernel
theorem dX3_isInLine_49 : decode cX3_isInLine 49 = .ok (.isub, 1) := by decide +kernel
theorem dX3_isInLine_50 : decode cX3_isInLine 50 = .ok (.imul, 1) := by decide +kernel
theorem dX3_isInLine_51 : decode cX3_isInLine 51 = .ok (.iconst 2, 1) := by decide +kernel
theorem dX3_isInLine_52 : decode cX3_isInLine 52 = .ok (.idiv, 1) := by decide +kernel
theorem dX3_isInLine_53 : decode cX3_isInLine 53 = .ok (.if_icmp .ne 7, 3) := by decide +kernel
theorem dX3_isInLine_56 : decode cX3_isInLine 56 = .ok (.iconst 1, 1) := by decide +kernel
theorem dX3_isInLine_57 : decode cX3_isInLine 57 = .ok (.goto 4, 3) := by decide +kernel
theorem dX3_isInLine_60 : decode cX3_isInLine 60 = .ok (.iconst 0, 1) := by decide +kernel
theorem dX3_isInLine_61 : decode cX3_isInLine 61 = .ok (.ireturn, 1) := by decide +kernel
theorem dX0_longestWithin_0 : decode cX0_longestWithin 0 = .ok (.iconst 0, 1) := by decide +kernel
theorem dX0_longestWithin_1 : decode cX0_longestWithin 1 = .ok (.istore_n 2, 1) := by decide +kernel
theorem dX0_longestWithin_2 : decode cX0_longestWithin 2 = .ok (.iconst 0, 1) := by decide +kernel
theorem dX0_longestWithin_3 : decode cX0_longestWithin 3 = .ok (.istore_n 3, 1) := by decide +kernel
theorem dX0_longestWithin_4 : decode cX0_longestWithin 4 = .ok (.iload_n 3, 1) := by decide +kernel
theorem dX0_longestWithin_5 : decode cX0_longestWithin 5 = .ok (.aload_n 0, 1) := by decide +kernel
theorem dX0_longestWithin_6 : decode cX0_longestWithin 6 = .ok (.invokevirtual 18, 3) := by decide +kernel
theorem dX0_longestWithin_9 : decode cX0_longestWithin 9 = .ok (.if_icmp .ge 34, 3) := by decide +kernel
theorem dX0_longestWithin_12 : decode cX0_longestWithin 12 = .ok (.iload_n 3, 1) := by decide +kernel
theorem dX0_longestWithin_13 : decode cX0_longestWithin 13 = .ok (.iload_n 1, 1) := by decide +kernel
theorem dX0_longestWithin_14 : decode cX0_longestWithin 14 = .ok (.invokestatic 24, 3) := by decide +kernel
theorem dX0_longestWithin_17 : decode cX0_longestWithin 17 = .ok (.ifCond .eq 20, 3) := by decide +kernel
theorem dX0_longestWithin_20 : decode cX0_longestWithin 20 = .ok (.aload_n 0, 1) := by decide +kernel
theorem dX0_longestWithin_21 : decode cX0_longestWithin 21 = .ok (.iload_n 3, 1) := by decide +kernel
theorem dX0_longestWithin_22 : decode cX0_longestWithin 22 = .ok (.invokevirtual 28, 3) := by decide +kernel
theorem dX0_longestWithin_25 : decode cX0_longestWithin 25 = .ok (.ifCond .eq 12, 3) := by decide +kernel
theorem dX0_longestWithin_28 : decode cX0_longestWithin 28 = .ok (.iload_n 2, 1) := by decide +kernel
theorem dX0_longestWithin_29 : decode cX0_longestWithin 29 = .ok (.iload_n 3, 1) := by decide +kernel
theorem dX0_longestWithin_30 : decode cX0_longestWithin 30 = .ok (.invokestatic 32, 3) := by decide +kernel
theorem dX0_longestWithin_33 : decode cX0_longestWithin 33 = .ok (.invokestatic 38, 3) := by decide +kernel
theorem dX0_longestWithin_36 : decode cX0_longestWithin 36 = .ok (.istore_n 2, 1) := by decide +kernel
theorem dX0_longestWithin_37 : decode cX0_longestWithin 37 = .ok (.iinc 3 1, 3) := by decide +kernel
theorem dX0_longestWithin_40 : decode cX0_longestWithin 40 = .ok (.goto (-36), 3) := by decide +kernel
theorem dX0_longestWithin_43 : decode cX0_longestWithin 43 = .ok (.iload_n 2, 1) := by decide +kernel
theorem dX0_longestWithin_44 : decode cX0_longestWithin 44 = .ok (.ireturn, 1) := by decide +kernel
theorem dX3_isUnordered_0 : decode cX3_isUnordered 0 = .ok (.iconst 0, 1) := by decide +kernel
theorem dX3_isUnordered_1 : decode cX3_isUnordered 1 = .ok (.istore_n 2, 1) := by decide +kernel
theorem dX3_isUnordered_2 : decode cX3_isUnordered 2 = .ok (.iload_n 2, 1) := by decide +kernel
theorem dX3_isUnordered_3 : decode cX3_isUnordered 3 = .ok (.aload_n 0, 1) := by decide +kernel
theorem dX3_isUnordered_4 : decode cX3_isUnordered 4 = .ok (.getfield 22, 3) := by decide +kernel
theorem dX3_isUnordered_7 : decode cX3_isUnordered 7 = .ok (.if_icmp .ge 30, 3) := by decide +kernel
theorem dX3_isUnordered_10 : decode cX3_isUnordered 10 = .ok (.iload_n 1, 1) := by decide +kernel
theorem dX3_isUnordered_11 : decode cX3_isUnordered 11 = .ok (.iload_n 2, 1) := by decide +kernel
theorem dX3_isUnordered_12 : decode cX3_isUnordered 12 = .ok (.invokestatic 30, 3) := by decide +kernel
theorem dX3_isUnordered_15 : decode cX3_isUnordered 15 = .ok (.ifCond .eq 16, 3) := by decide +kernel
theorem dX3_isUnordered_18 : decode cX3_isUnordered 18 = .ok (.aload_n 0, 1) := by decide +kernel
theorem dX3_isUnordered_19 : decode cX3_isUnordered 19 = .ok (.getfield 9, 3) := by decide +kernel
theorem dX3_isUnordered_22 : decode cX3_isUnordered 22 = .ok (.iload_n 2, 1) := by decide +kernel
theorem dX3_isUnordered_23 : decode cX3_isUnordered 23 = .ok (.iaload, 1) := by decide +kernel
theorem dX3_isUnordered_24 : decode cX3_isUnordered 24 = .ok (.iload_n 1, 1) := by decide +kernel
theorem dX3_isUnordered_25 : decode cX3_isUnordered 25 = .ok (.iand, 1) := by decide +kernel
theorem dX3_isUnordered_26 : decode cX3_isUnordered 26 = .ok (.ifCond .eq 5, 3) := by decide +kernel
theorem dX3_isUnordered_29 : decode cX3_isUnordered 29 = .ok (.iconst 0, 1) := by decide +kernel
theorem dX3_isUnordered_30 : decode cX3_isUnordered 30 = .ok (.ireturn, 1) := by decide +kernel
theorem dX3_isUnordered_31 : decode cX3_isUnordered 31 = .ok (.iinc 2 1, 3) := by decide +kernel
theorem dX3_isUnordered_34 : decode cX3_isUnordered 34 = .ok (.goto (-32), 3) := by decide +kernel
theorem dX3_isUnordered_37 : decode cX3_isUnordered 37 = .ok (.iconst 1, 1) := by decide +kernel
theorem dX3_isUnordered_38 : decode cX3_isUnordered 38 = .ok (.ireturn, 1) := by decide +kernel
theorem dX0_mostApart_0 : decode cX0_mostApart 0 = .ok (.iconst 0, 1) := by decide +kernel
theorem dX0_mostApart_1 : decode cX0_mostApart 1 = .ok (.istore_n 1, 1) := by decide +kernel
theorem dX0_mostApart_2 : decode cX0_mostApart 2 = .ok (.iconst 0, 1) := by decide +kernel
theorem dX0_mostApart_3 : decode cX0_mostApart 3 = .ok (.istore_n 2, 1) := by decide +kernel
theorem dX0_mostApart_4 : decode cX0_mostApart 4 = .ok (.iload_n 2, 1) := by decide +kernel
theorem dX0_mostApart_5 : decode cX0_mostApart 5 = .ok (.aload_n 0, 1) := by decide +kernel
theorem dX0_mostApart_6 : decode cX0_mostApart 6 = .ok (.invokevirtual 18, 3) := by decide +kernel
theorem dX0_mostApart_9 : decode cX0_mostApart 9 = .ok (.if_icmp .ge 26, 3) := by decide +kernel
theorem dX0_mostApart_12 : decode cX0_mostApart 12 = .ok (.aload_n 0, 1) := by decide +kernel
theorem dX0_mostApart_13 : decode cX0_mostApart 13 = .ok (.iload_n 2, 1) := by decide +kernel
theorem dX0_mostApart_14 : decode cX0_mostApart 14 = .ok (.invokevirtual 44, 3) := by decide +kernel
theorem dX0_mostApart_17 : decode cX0_mostApart 17 = .ok (.ifCond .eq 12, 3) := by decide +kernel
theorem dX0_mostApart_20 : decode cX0_mostApart 20 = .ok (.iload_n 1, 1) := by decide +kernel
theorem dX0_mostApart_21 : decode cX0_mostApart 21 = .ok (.iload_n 2, 1) := by decide +kernel
theorem dX0_mostApart_22 : decode cX0_mostApart 22 = .ok (.invokestatic 32, 3) := by decide +kernel
theorem dX0_mostApart_25 : decode cX0_mostApart 25 = .ok (.invokestatic 38, 3) := by decide +kernel
theorem dX0_mostApart_28 : decode cX0_mostApart 28 = .ok (.istore_n 1, 1) := by decide +kernel
theorem dX0_mostApart_29 : decode cX0_mostApart 29 = .ok (.iinc 2 1, 3) := by decide +kernel
theorem dX0_mostApart_32 : decode cX0_mostApart 32 = .ok (.goto (-28), 3) := by decide +kernel
theorem dX0_mostApart_35 : decode cX0_mostApart 35 = .ok (.iload_n 1, 1) := by decide +kernel
theorem dX0_mostApart_36 : decode cX0_mostApart 36 = .ok (.ireturn, 1) := by decide +kernel
theorem dX0_apartCount_0 : decode cX0_apartCount 0 = .ok (.iconst 0, 1) := by decide +kernel
theorem dX0_apartCount_1 : decode cX0_apartCount 1 = .ok (.istore_n 1, 1) := by decide +kernel
theorem dX0_apartCount_2 : decode cX0_apartCount 2 = .ok (.iconst 0, 1) := by decide +kernel
theorem dX0_apartCount_3 : decode cX0_apartCount 3 = .ok (.istore_n 2, 1) := by decide +kernel
theorem dX0_apartCount_4 : decode cX0_apartCount 4 = .ok (.iload_n 2, 1) := by decide +kernel
theorem dX0_apartCount_5 : decode cX0_apartCount 5 = .ok (.aload_n 0, 1) := by decide +kernel
theorem dX0_apartCount_6 : decode cX0_apartCount 6 = .ok (.invokevirtual 18, 3) := by decide +kernel
theorem dX0_apartCount_9 : decode cX0_apartCount 9 = .ok (.if_icmp .ge 20, 3) := by decide +kernel
theorem dX0_apartCount_12 : decode cX0_apartCount 12 = .ok (.aload_n 0, 1) := by decide +kernel
theorem dX0_apartCount_13 : decode cX0_apartCount 13 = .ok (.iload_n 2, 1) := by decide +kernel
theorem dX0_apartCount_14 : decode cX0_apartCount 14 = .ok (.invokevirtual 44, 3) := by decide +kernel
theorem dX0_apartCount_17 : decode cX0_apartCount 17 = .ok (.ifCond .eq 6, 3) := by decide +kernel
theorem dX0_apartCount_20 : decode cX0_apartCount 20 = .ok (.iinc 1 1, 3) := by decide +kernel
theorem dX0_apartCount_23 : decode cX0_apartCount 23 = .ok (.iinc 2 1, 3) := by decide +kernel
theorem dX0_apartCount_26 : decode cX0_apartCount 26 = .ok (.goto (-22), 3) := by decide +kernel
theorem dX0_apartCount_29 : decode cX0_apartCount 29 = .ok (.iload_n 1, 1) := by decide +kernel
theorem dX0_apartCount_30 : decode cX0_apartCount 30 = .ok (.ireturn, 1) := by decide +kernel
theorem dX3_all_0 : decode cX3_all 0 = .ok (.aload_n 0, 1) := by decide +kernel
theorem dX3_all_1 : decode cX3_all 1 = .ok (.invokevirtual 18, 3) := by decide +kernel
theorem dX3_all_4 : decode cX3_all 4 = .ok (.iconst 1, 1) := by decide +kernel
theorem dX3_all_5 : decode cX3_all 5 = .ok (.isub, 1) := by decide +kernel
theorem dX3_all_6 : decode cX3_all 6 = .ok (.ireturn, 1) := by decide +kernel
theorem dX3_leastOf_0 : decode cX3_leastOf 0 = .ok (.iconst 0, 1) := by decide +kernel
theorem dX3_leastOf_1 : decode cX3_leastOf 1 = .ok (.istore_n 2, 1) := by decide +kernel
theorem dX3_leastOf_2 : decode cX3_leastOf 2 = .ok (.iconst 0, 1) := by decide +kernel
theorem dX3_leastOf_3 : decode cX3_leastOf 3 = .ok (.istore_n 3, 1) := by decide +kernel
theorem dX3_leastOf_4 : decode cX3_leastOf 4 = .ok (.iload_n 3, 1) := by decide +kernel
theorem dX3_leastOf_5 : decode cX3_leastOf 5 = .ok (.aload_n 0, 1) := by decide +kernel
theorem dX3_leastOf_6 : decode cX3_leastOf 6 = .ok (.getfield 22, 3) := by decide +kernel
theorem dX3_leastOf_9 : decode cX3_leastOf 9 = .ok (.if_icmp .ge 34, 3) := by decide +kernel
theorem dX3_leastOf_12 : decode cX3_leastOf 12 = .ok (.iload_n 1, 1) := by decide +kernel
theorem dX3_leastOf_13 : decode cX3_leastOf 13 = .ok (.iload_n 3, 1) := by decide +kernel
theorem dX3_leastOf_14 : decode cX3_leastOf 14 = .ok (.invokestatic 30, 3) := by decide +kernel
theorem dX3_leastOf_17 : decode cX3_leastOf 17 = .ok (.ifCond .eq 20, 3) := by decide +kernel
theorem dX3_leastOf_20 : decode cX3_leastOf 20 = .ok (.aload_n 0, 1) := by decide +kernel
theorem dX3_leastOf_21 : decode cX3_leastOf 21 = .ok (.getfield 9, 3) := by decide +kernel
theorem dX3_leastOf_24 : decode cX3_leastOf 24 = .ok (.iload_n 3, 1) := by decide +kernel
theorem dX3_leastOf_25 : decode cX3_leastOf 25 = .ok (.iaload, 1) := by decide +kernel
theorem dX3_leastOf_26 : decode cX3_leastOf 26 = .ok (.iload_n 1, 1) := by decide +kernel
theorem dX3_leastOf_27 : decode cX3_leastOf 27 = .ok (.iand, 1) := by decide +kernel
theorem dX3_leastOf_28 : decode cX3_leastOf 28 = .ok (.ifCond .ne 9, 3) := by decide +kernel
theorem dX3_leastOf_31 : decode cX3_leastOf 31 = .ok (.iload_n 2, 1) := by decide +kernel
theorem dX3_leastOf_32 : decode cX3_leastOf 32 = .ok (.iconst 1, 1) := by decide +kernel
theorem dX3_leastOf_33 : decode cX3_leastOf 33 = .ok (.iload_n 3, 1) := by decide +kernel
theorem dX3_leastOf_34 : decode cX3_leastOf 34 = .ok (.ishl, 1) := by decide +kernel
theorem dX3_leastOf_35 : decode cX3_leastOf 35 = .ok (.ior, 1) := by decide +kernel
theorem dX3_leastOf_36 : decode cX3_leastOf 36 = .ok (.istore_n 2, 1) := by decide +kernel
theorem dX3_leastOf_37 : decode cX3_leastOf 37 = .ok (.iinc 3 1, 3) := by decide +kernel
theorem dX3_leastOf_40 : decode cX3_leastOf 40 = .ok (.goto (-36), 3) := by decide +kernel
theorem dX3_leastOf_43 : decode cX3_leastOf 43 = .ok (.iload_n 2, 1) := by decide +kernel
theorem dX3_leastOf_44 : decode cX3_leastOf 44 = .ok (.ireturn, 1) := by decide +kernel
theorem dX0_layerCount_0 : decode cX0_layerCount 0 = .ok (.aload_n 0, 1) := by decide +kernel
theorem dX0_layerCount_1 : decode cX0_layerCount 1 = .ok (.invokevirtual 47, 3) := by decide +kernel
theorem dX0_layerCount_4 : decode cX0_layerCount 4 = .ok (.istore_n 1, 1) := by decide +kernel
theorem dX0_layerCount_5 : decode cX0_layerCount 5 = .ok (.iconst 0, 1) := by decide +kernel
theorem dX0_layerCount_6 : decode cX0_layerCount 6 = .ok (.istore_n 2, 1) := by decide +kernel
theorem dX0_layerCount_7 : decode cX0_layerCount 7 = .ok (.iconst 0, 1) := by decide +kernel
theorem dX0_layerCount_8 : decode cX0_layerCount 8 = .ok (.istore_n 3, 1) := by decide +kernel
theorem dX0_layerCount_9 : decode cX0_layerCount 9 = .ok (.iload_n 3, 1) := by decide +kernel
theorem dX0_layerCount_10 : decode cX0_layerCount 10 = .ok (.aload_n 0, 1) := by decide +kernel
theorem dX0_layerCount_11 : decode cX0_layerCount 11 = .ok (.getfield 50, 3) := by decide +kernel
theorem dX0_layerCount_14 : decode cX0_layerCount 14 = .ok (.if_icmp .ge 26, 3) := by decide +kernel
theorem dX0_layerCount_17 : decode cX0_layerCount 17 = .ok (.iload_n 1, 1) := by decide +kernel
theorem dX0_layerCount_18 : decode cX0_layerCount 18 = .ok (.ifCond .eq 16, 3) := by decide +kernel
theorem dX0_layerCount_21 : decode cX0_layerCount 21 = .ok (.iload_n 1, 1) := by decide +kernel
theorem dX0_layerCount_22 : decode cX0_layerCount 22 = .ok (.aload_n 0, 1) := by decide +kernel
theorem dX0_layerCount_23 : decode cX0_layerCount 23 = .ok (.iload_n 1, 1) := by decide +kernel
theorem dX0_layerCount_24 : decode cX0_layerCount 24 = .ok (.invokevirtual 54, 3) := by decide +kernel
theorem dX0_layerCount_27 : decode cX0_layerCount 27 = .ok (.iconst (-1), 1) := by decide +kernel
theorem dX0_layerCount_28 : decode cX0_layerCount 28 = .ok (.ixor, 1) := by decide +kernel
theorem dX0_layerCount_29 : decode cX0_layerCount 29 = .ok (.iand, 1) := by decide +kernel
theorem dX0_layerCount_30 : decode cX0_layerCount 30 = .ok (.istore_n 1, 1) := by decide +kernel
theorem dX0_layerCount_31 : decode cX0_layerCount 31 = .ok (.iinc 2 1, 3) := by decide +kernel
theorem dX0_layerCount_34 : decode cX0_layerCount 34 = .ok (.iinc 3 1, 3) := by decide +kernel
theorem dX0_layerCount_37 : decode cX0_layerCount 37 = .ok (.goto (-28), 3) := by decide +kernel
theorem dX0_layerCount_40 : decode cX0_layerCount 40 = .ok (.iload_n 2, 1) := by decide +kernel
theorem dX0_layerCount_41 : decode cX0_layerCount 41 = .ok (.ireturn, 1) := by decide +kernel
theorem dX3_hasThing_0 : decode cX3_hasThing 0 = .ok (.iload_n 1, 1) := by decide +kernel
theorem dX3_hasThing_1 : decode cX3_hasThing 1 = .ok (.ifCond .lt 15, 3) := by decide +kernel
theorem dX3_hasThing_4 : decode cX3_hasThing 4 = .ok (.iload_n 1, 1) := by decide +kernel
theorem dX3_hasThing_5 : decode cX3_hasThing 5 = .ok (.aload_n 0, 1) := by decide +kernel
theorem dX3_hasThing_6 : decode cX3_hasThing 6 = .ok (.getfield 22, 3) := by decide +kernel
theorem dX3_hasThing_9 : decode cX3_hasThing 9 = .ok (.if_icmp .ge 7, 3) := by decide +kernel
theorem dX3_hasThing_12 : decode cX3_hasThing 12 = .ok (.iconst 1, 1) := by decide +kernel
theorem dX3_hasThing_13 : decode cX3_hasThing 13 = .ok (.goto 4, 3) := by decide +kernel
theorem dX3_hasThing_16 : decode cX3_hasThing 16 = .ok (.iconst 0, 1) := by decide +kernel
theorem dX3_hasThing_17 : decode cX3_hasThing 17 = .ok (.ireturn, 1) := by decide +kernel
theorem dX3_isBelow_0 : decode cX3_isBelow 0 = .ok (.aload_n 0, 1) := by decide +kernel
theorem dX3_isBelow_1 : decode cX3_isBelow 1 = .ok (.getfield 9, 3) := by decide +kernel
theorem dX3_isBelow_4 : decode cX3_isBelow 4 = .ok (.iload_n 2, 1) := by decide +kernel
theorem dX3_isBelow_5 : decode cX3_isBelow 5 = .ok (.iaload, 1) := by decide +kernel
theorem dX3_isBelow_6 : decode cX3_isBelow 6 = .ok (.iload_n 1, 1) := by decide +kernel
theorem dX3_isBelow_7 : decode cX3_isBelow 7 = .ok (.invokestatic 30, 3) := by decide +kernel
theorem dX3_isBelow_10 : decode cX3_isBelow 10 = .ok (.ireturn, 1) := by decide +kernel
theorem dX0_findsFollower_0 : decode cX0_findsFollower 0 = .ok (.iload 5, 2) := by decide +kernel
theorem dX0_findsFollower_2 : decode cX0_findsFollower 2 = .ok (.bipush 9, 2) := by decide +kernel
theorem dX0_findsFollower_4 : decode cX0_findsFollower 4 = .ok (.if_icmp .gt 11, 3) := by decide +kernel
theorem dX0_findsFollower_7 : decode cX0_findsFollower 7 = .ok (.aload_n 0, 1) := by decide +kernel
theorem dX0_findsFollower_8 : decode cX0_findsFollower 8 = .ok (.iload_n 3, 1) := by decide +kernel
theorem dX0_findsFollower_9 : decode cX0_findsFollower 9 = .ok (.invokevirtual 61, 3) := by decide +kernel
theorem dX0_findsFollower_12 : decode cX0_findsFollower 12 = .ok (.ifCond .ne 5, 3) := by decide +kernel
theorem dX0_findsFollower_15 : decode cX0_findsFollower 15 = .ok (.iconst 0, 1) := by decide +kernel
theorem dX0_findsFollower_16 : decode cX0_findsFollower 16 = .ok (.ireturn, 1) := by decide +kernel
theorem dX0_findsFollower_17 : decode cX0_findsFollower 17 = .ok (.iconst 0, 1) := by decide +kernel
theorem dX0_findsFollower_18 : decode cX0_findsFollower 18 = .ok (.istore 6, 2) := by decide +kernel
theorem dX0_findsFollower_20 : decode cX0_findsFollower 20 = .ok (.iload 6, 2) := by decide +kernel
theorem dX0_findsFollower_22 : decode cX0_findsFollower 22 = .ok (.aload_n 0, 1) := by decide +kernel
theorem dX0_findsFollower_23 : decode cX0_findsFollower 23 = .ok (.getfield 50, 3) := by decide +kernel
theorem dX0_findsFollower_26 : decode cX0_findsFollower 26 = .ok (.if_icmp .ge 68, 3) := by decide +kernel
theorem dX0_findsFollower_29 : decode cX0_findsFollower 29 = .ok (.aload_n 0, 1) := by decide +kernel
theorem dX0_findsFollower_30 : decode cX0_findsFollower 30 = .ok (.iload_n 3, 1) := by decide +kernel
theorem dX0_findsFollower_31 : decode cX0_findsFollower 31 = .ok (.iload 6, 2) := by decide +kernel
theorem dX0_findsFollower_33 : decode cX0_findsFollower 33 = .ok (.invokevirtual 64, 3) := by decide +kernel
theorem dX0_findsFollower_36 : decode cX0_findsFollower 36 = .ok (.ifCond .eq 52, 3) := by decide +kernel
theorem dX0_findsFollower_39 : decode cX0_findsFollower 39 = .ok (.aload_n 2, 1) := by decide +kernel
theorem dX0_findsFollower_40 : decode cX0_findsFollower 40 = .ok (.iload 6, 2) := by decide +kernel
theorem dX0_findsFollower_42 : decode cX0_findsFollower 42 = .ok (.iaload, 1) := by decide +kernel
theorem dX0_findsFollower_43 : decode cX0_findsFollower 43 = .ok (.iload 4, 2) := by decide +kernel
theorem dX0_findsFollower_45 : decode cX0_findsFollower 45 = .ok (.if_icmp .eq 43, 3) := by decide +kernel
theorem dX0_findsFollower_48 : decode cX0_findsFollower 48 = .ok (.aload_n 2, 1) := by decide +kernel
theorem dX0_findsFollower_49 : decode cX0_findsFollower 49 = .ok (.iload 6, 2) := by decide +kernel
theorem dX0_findsFollower_51 : decode cX0_findsFollower 51 = .ok (.iload 4, 2) := by decide +kernel
theorem dX0_findsFollower_53 : decode cX0_findsFollower 53 = .ok (.iastore, 1) := by decide +kernel
theorem dX0_findsFollower_54 : decode cX0_findsFollower 54 = .ok (.aload_n 1, 1) := by decide +kernel
theorem dX0_findsFollower_55 : decode cX0_findsFollower 55 = .ok (.iload 6, 2) := by decide +kernel
theorem dX0_findsFollower_57 : decode cX0_findsFollower 57 = .ok (.iaload, 1) := by decide +kernel
theorem dX0_findsFollower_58 : decode cX0_findsFollower 58 = .ok (.iconst (-1), 1) := by decide +kernel
theorem dX0_findsFollower_59 : decode cX0_findsFollower 59 = .ok (.if_icmp .eq 22, 3) := by decide +kernel
theorem dX0_findsFollower_62 : decode cX0_findsFollower 62 = .ok (.aload_n 0, 1) := by decide +kernel
theorem dX0_findsFollower_63 : decode cX0_findsFollower 63 = .ok (.aload_n 1, 1) := by decide +kernel
theorem dX0_findsFollower_64 : decode cX0_findsFollower 64 = .ok (.aload_n 2, 1) := by decide +kernel
theorem dX0_findsFollower_65 : decode cX0_findsFollower 65 = .ok (.aload_n 1, 1) := by decide +kernel
theorem dX0_findsFollower_66 : decode cX0_findsFollower 66 = .ok (.iload 6, 2) := by decide +kernel
theorem dX0_findsFollower_68 : decode cX0_findsFollower 68 = .ok (.iaload, 1) := by decide +kernel
theorem dX0_findsFollower_69 : decode cX0_findsFollower 69 = .ok (.iload 4, 2) := by decide +kernel
theorem dX0_findsFollower_71 : decode cX0_findsFollower 71 = .ok (.iload 5, 2) := by decide +kernel
theorem dX0_findsFollower_73 : decode cX0_findsFollower 73 = .ok (.iconst 1, 1) := by decide +kernel
theorem dX0_findsFollower_74 : decode cX0_findsFollower 74 = .ok (.iadd, 1) := by decide +kernel
theorem dX0_findsFollower_75 : decode cX0_findsFollower 75 = .ok (.invokestatic 57, 3) := by decide +kernel
theorem dX0_findsFollower_78 : decode cX0_findsFollower 78 = .ok (.ifCond .eq 10, 3) := by decide +kernel
theorem dX0_findsFollower_81 : decode cX0_findsFollower 81 = .ok (.aload_n 1, 1) := by decide +kernel
theorem dX0_findsFollower_82 : decode cX0_findsFollower 82 = .ok (.iload 6, 2) := by decide +kernel
theorem dX0_findsFollower_84 : decode cX0_findsFollower 84 = .ok (.iload_n 3, 1) := by decide +kernel
theorem dX0_findsFollower_85 : decode cX0_findsFollower 85 = .ok (.iastore, 1) := by decide +kernel
theorem dX0_findsFollower_86 : decode cX0_findsFollower 86 = .ok (.iconst 1, 1) := by decide +kernel
theorem dX0_findsFollower_87 : decode cX0_findsFollower 87 = .ok (.ireturn, 1) := by decide +kernel
theorem dX0_findsFollower_88 : decode cX0_findsFollower 88 = .ok (.iinc 6 1, 3) := by decide +kernel
theorem dX0_findsFollower_91 : decode cX0_findsFollower 91 = .ok (.goto (-71), 3) := by decide +kernel
theorem dX0_findsFollower_94 : decode cX0_findsFollower 94 = .ok (.iconst 0, 1) := by decide +kernel
theorem dX0_findsFollower_95 : decode cX0_findsFollower 95 = .ok (.ireturn, 1) := by decide +kernel
theorem dX0_chainCover_0 : decode cX0_chainCover 0 = .ok (.iconst 0, 1) := by decide +kernel
theorem dX0_chainCover_1 : decode cX0_chainCover 1 = .ok (.istore_n 2, 1) := by decide +kernel
theorem dX0_chainCover_2 : decode cX0_chainCover 2 = .ok (.iload_n 2, 1) := by decide +kernel
theorem dX0_chainCover_3 : decode cX0_chainCover 3 = .ok (.bipush 9, 2) := by decide +kernel
theorem dX0_chainCover_5 : decode cX0_chainCover 5 = .ok (.if_icmp .ge 23, 3) := by decide +kernel
theorem dX0_chainCover_8 : decode cX0_chainCover 8 = .ok (.aload_n 0, 1) := by decide +kernel
theorem dX0_chainCover_9 : decode cX0_chainCover 9 = .ok (.getfield 9, 3) := by decide +kernel
theorem dX0_chainCover_12 : decode cX0_chainCover 12 = .ok (.iload_n 2, 1) := by decide +kernel
theorem dX0_chainCover_13 : decode cX0_chainCover 13 = .ok (.iconst (-1), 1) := by decide +kernel
theorem dX0_chainCover_14 : decode cX0_chainCover 14 = .ok (.iastore, 1) := by decide +kernel
theorem dX0_chainCover_15 : decode cX0_chainCover 15 = .ok (.aload_n 0, 1) := by decide +kernel
theorem dX0_chainCover_16 : decode cX0_chainCover 16 = .ok (.getfield 15, 3) := by decide +kernel
theorem dX0_chainCover_19 : decode cX0_chainCover 19 = .ok (.iload_n 2, 1) := by decide +kernel
theorem dX0_chainCover_20 : decode cX0_chainCover 20 = .ok (.iconst (-1), 1) := by decide +kernel
theorem dX0_chainCover_21 : decode cX0_chainCover 21 = .ok (.iastore, 1) := by decide +kernel
theorem dX0_chainCover_22 : decode cX0_chainCover 22 = .ok (.iinc 2 1, 3) := by decide +kernel
theorem dX0_chainCover_25 : decode cX0_chainCover 25 = .ok (.goto (-23), 3) := by decide +kernel
theorem dX0_chainCover_28 : decode cX0_chainCover 28 = .ok (.aload_n 1, 1) := by decide +kernel
theorem dX0_chainCover_29 : decode cX0_chainCover 29 = .ok (.getfield 50, 3) := by decide +kernel
theorem dX0_chainCover_32 : decode cX0_chainCover 32 = .ok (.istore_n 2, 1) := by decide +kernel
theorem dX0_chainCover_33 : decode cX0_chainCover 33 = .ok (.iconst 0, 1) := by decide +kernel
theorem dX0_chainCover_34 : decode cX0_chainCover 34 = .ok (.istore_n 3, 1) := by decide +kernel
theorem dX0_chainCover_35 : decode cX0_chainCover 35 = .ok (.iload_n 3, 1) := by decide +kernel
theorem dX0_chainCover_36 : decode cX0_chainCover 36 = .ok (.aload_n 1, 1) := by decide +kernel
theorem dX0_chainCover_37 : decode cX0_chainCover 37 = .ok (.getfield 50, 3) := by decide +kernel
theorem dX0_chainCover_40 : decode cX0_chainCover 40 = .ok (.if_icmp .ge 30, 3) := by decide +kernel
theorem dX0_chainCover_43 : decode cX0_chainCover 43 = .ok (.aload_n 1, 1) := by decide +kernel
theorem dX0_chainCover_44 : decode cX0_chainCover 44 = .ok (.aload_n 0, 1) := by decide +kernel
theorem dX0_chainCover_45 : decode cX0_chainCover 45 = .ok (.getfield 9, 3) := by decide +kernel
theorem dX0_chainCover_48 : decode cX0_chainCover 48 = .ok (.aload_n 0, 1) := by decide +kernel
theorem dX0_chainCover_49 : decode cX0_chainCover 49 = .ok (.getfield 15, 3) := by decide +kernel
theorem dX0_chainCover_52 : decode cX0_chainCover 52 = .ok (.iload_n 3, 1) := by decide +kernel
theorem dX0_chainCover_53 : decode cX0_chainCover 53 = .ok (.iload_n 3, 1) := by decide +kernel
theorem dX0_chainCover_54 : decode cX0_chainCover 54 = .ok (.iconst 0, 1) := by decide +kernel
theorem dX0_chainCover_55 : decode cX0_chainCover 55 = .ok (.invokestatic 57, 3) := by decide +kernel
theorem dX0_chainCover_58 : decode cX0_chainCover 58 = .ok (.ifCond .eq 6, 3) := by decide +kernel
theorem dX0_chainCover_61 : decode cX0_chainCover 61 = .ok (.iinc 2 (-1), 3) := by decide +kernel
theorem dX0_chainCover_64 : decode cX0_chainCover 64 = .ok (.iinc 3 1, 3) := by decide +kernel
theorem dX0_chainCover_67 : decode cX0_chainCover 67 = .ok (.goto (-32), 3) := by decide +kernel
theorem dX0_chainCover_70 : decode cX0_chainCover 70 = .ok (.iload_n 2, 1) := by decide +kernel
theorem dX0_chainCover_71 : decode cX0_chainCover 71 = .ok (.ireturn, 1) := by decide +kernel
theorem dX1_isAhead_0 : decode cX1_isAhead 0 = .ok (.iload_n 0, 1) := by decide +kernel
theorem dX1_isAhead_1 : decode cX1_isAhead 1 = .ok (.invokestatic 9, 3) := by decide +kernel
theorem dX1_isAhead_4 : decode cX1_isAhead 4 = .ok (.iload_n 1, 1) := by decide +kernel
theorem dX1_isAhead_5 : decode cX1_isAhead 5 = .ok (.invokestatic 9, 3) := by decide +kernel
theorem dX1_isAhead_8 : decode cX1_isAhead 8 = .ok (.isub, 1) := by decide +kernel
theorem dX1_isAhead_9 : decode cX1_isAhead 9 = .ok (.istore_n 2, 1) := by decide +kernel
theorem dX1_isAhead_10 : decode cX1_isAhead 10 = .ok (.iload_n 2, 1) := by decide +kernel
theorem dX1_isAhead_11 : decode cX1_isAhead 11 = .ok (.ifCond .lt 12, 3) := by decide +kernel
theorem dX1_isAhead_14 : decode cX1_isAhead 14 = .ok (.iload_n 2, 1) := by decide +kernel
theorem dX1_isAhead_15 : decode cX1_isAhead 15 = .ok (.ifCond .ne 12, 3) := by decide +kernel
theorem dX1_isAhead_18 : decode cX1_isAhead 18 = .ok (.iload_n 0, 1) := by decide +kernel
theorem dX1_isAhead_19 : decode cX1_isAhead 19 = .ok (.iload_n 1, 1) := by decide +kernel
theorem dX1_isAhead_20 : decode cX1_isAhead 20 = .ok (.if_icmp .ge 7, 3) := by decide +kernel
theorem dX1_isAhead_23 : decode cX1_isAhead 23 = .ok (.iconst 1, 1) := by decide +kernel
theorem dX1_isAhead_24 : decode cX1_isAhead 24 = .ok (.goto 4, 3) := by decide +kernel
theorem dX1_isAhead_27 : decode cX1_isAhead 27 = .ok (.iconst 0, 1) := by decide +kernel
theorem dX1_isAhead_28 : decode cX1_isAhead 28 = .ok (.ireturn, 1) := by decide +kernel
theorem dX3_isClosedBelow_0 : decode cX3_isClosedBelow 0 = .ok (.iconst 0, 1) := by decide +kernel
theorem dX3_isClosedBelow_1 : decode cX3_isClosedBelow 1 = .ok (.istore_n 2, 1) := by decide +kernel
theorem dX3_isClosedBelow_2 : decode cX3_isClosedBelow 2 = .ok (.iload_n 2, 1) := by decide +kernel
theorem dX3_isClosedBelow_3 : decode cX3_isClosedBelow 3 = .ok (.aload_n 0, 1) := by decide +kernel
theorem dX3_isClosedBelow_4 : decode cX3_isClosedBelow 4 = .ok (.getfield 22, 3) := by decide +kernel
theorem dX3_isClosedBelow_7 : decode cX3_isClosedBelow 7 = .ok (.if_icmp .ge 32, 3) := by decide +kernel
theorem dX3_isClosedBelow_10 : decode cX3_isClosedBelow 10 = .ok (.iload_n 1, 1) := by decide +kernel
theorem dX3_isClosedBelow_11 : decode cX3_isClosedBelow 11 = .ok (.iload_n 2, 1) := by decide +kernel
theorem dX3_isClosedBelow_12 : decode cX3_isClosedBelow 12 = .ok (.invokestatic 30, 3) := by decide +kernel
theorem dX3_isClosedBelow_15 : decode cX3_isClosedBelow 15 = .ok (.ifCond .eq 18, 3) := by decide +kernel
theorem dX3_isClosedBelow_18 : decode cX3_isClosedBelow 18 = .ok (.aload_n 0, 1) := by decide +kernel
theorem dX3_isClosedBelow_19 : decode cX3_isClosedBelow 19 = .ok (.getfield 9, 3) := by decide +kernel
theorem dX3_isClosedBelow_22 : decode cX3_isClosedBelow 22 = .ok (.iload_n 2, 1) := by decide +kernel
theorem dX3_isClosedBelow_23 : decode cX3_isClosedBelow 23 = .ok (.iaload, 1) := by decide +kernel
theorem dX3_isClosedBelow_24 : decode cX3_isClosedBelow 24 = .ok (.iload_n 1, 1) := by decide +kernel
theorem dX3_isClosedBelow_25 : decode cX3_isClosedBelow 25 = .ok (.invokestatic 75, 3) := by decide +kernel
theorem dX3_isClosedBelow_28 : decode cX3_isClosedBelow 28 = .ok (.ifCond .ne 5, 3) := by decide +kernel
theorem dX3_isClosedBelow_31 : decode cX3_isClosedBelow 31 = .ok (.iconst 0, 1) := by decide +kernel
theorem dX3_isClosedBelow_32 : decode cX3_isClosedBelow 32 = .ok (.ireturn, 1) := by decide +kernel
theorem dX3_isClosedBelow_33 : decode cX3_isClosedBelow 33 = .ok (.iinc 2 1, 3) := by decide +kernel
theorem dX3_isClosedBelow_36 : decode cX3_isClosedBelow 36 = .ok (.goto (-34), 3) := by decide +kernel
theorem dX3_isClosedBelow_39 : decode cX3_isClosedBelow 39 = .ok (.iconst 1, 1) := by decide +kernel
theorem dX3_isClosedBelow_40 : decode cX3_isClosedBelow 40 = .ok (.ireturn, 1) := by decide +kernel
theorem dX1_count_0 : decode cX1_count 0 = .ok (.iconst 0, 1) := by decide +kernel
theorem dX1_count_1 : decode cX1_count 1 = .ok (.istore_n 1, 1) := by decide +kernel
theorem dX1_count_2 : decode cX1_count 2 = .ok (.iconst 0, 1) := by decide +kernel
theorem dX1_count_3 : decode cX1_count 3 = .ok (.istore_n 2, 1) := by decide +kernel
theorem dX1_count_4 : decode cX1_count 4 = .ok (.iload_n 2, 1) := by decide +kernel
theorem dX1_count_5 : decode cX1_count 5 = .ok (.aload_n 0, 1) := by decide +kernel
theorem dX1_count_6 : decode cX1_count 6 = .ok (.invokevirtual 15, 3) := by decide +kernel
theorem dX1_count_9 : decode cX1_count 9 = .ok (.if_icmp .ge 20, 3) := by decide +kernel
theorem dX1_count_12 : decode cX1_count 12 = .ok (.aload_n 0, 1) := by decide +kernel
theorem dX1_count_13 : decode cX1_count 13 = .ok (.iload_n 2, 1) := by decide +kernel
theorem dX1_count_14 : decode cX1_count 14 = .ok (.invokevirtual 21, 3) := by decide +kernel
theorem dX1_count_17 : decode cX1_count 17 = .ok (.ifCond .eq 6, 3) := by decide +kernel
theorem dX1_count_20 : decode cX1_count 20 = .ok (.iinc 1 1, 3) := by decide +kernel
theorem dX1_count_23 : decode cX1_count 23 = .ok (.iinc 2 1, 3) := by decide +kernel
theorem dX1_count_26 : decode cX1_count 26 = .ok (.goto (-22), 3) := by decide +kernel
theorem dX1_count_29 : decode cX1_count 29 = .ok (.iload_n 1, 1) := by decide +kernel
theorem dX1_count_30 : decode cX1_count 30 = .ok (.ireturn, 1) := by decide +kernel
theorem dX1_countOfSize_0 : decode cX1_countOfSize 0 = .ok (.iconst 0, 1) := by decide +kernel
theorem dX1_countOfSize_1 : decode cX1_countOfSize 1 = .ok (.istore_n 2, 1) := by decide +kernel
theorem dX1_countOfSize_2 : decode cX1_countOfSize 2 = .ok (.iconst 0, 1) := by decide +kernel
theorem dX1_countOfSize_3 : decode cX1_countOfSize 3 = .ok (.istore_n 3, 1) := by decide +kernel
theorem dX1_countOfSize_4 : decode cX1_countOfSize 4 = .ok (.iload_n 3, 1) := by decide +kernel
theorem dX1_countOfSize_5 : decode cX1_countOfSize 5 = .ok (.aload_n 0, 1) := by decide +kernel
theorem dX1_countOfSize_6 : decode cX1_countOfSize 6 = .ok (.invokevirtual 15, 3) := by decide +kernel
theorem dX1_countOfSize_9 : decode cX1_countOfSize 9 = .ok (.if_icmp .ge 28, 3) := by decide +kernel
theorem dX1_countOfSize_12 : decode cX1_countOfSize 12 = .ok (.iload_n 3, 1) := by decide +kernel
theorem dX1_countOfSize_13 : decode cX1_countOfSize 13 = .ok (.invokestatic 9, 3) := by decide +kernel
theorem dX1_countOfSize_16 : decode cX1_countOfSize 16 = .ok (.iload_n 1, 1) := by decide +kernel
theorem dX1_countOfSize_17 : decode cX1_countOfSize 17 = .ok (.if_icmp .ne 14, 3) := by decide +kernel
theorem dX1_countOfSize_20 : decode cX1_countOfSize 20 = .ok (.aload_n 0, 1) := by decide +kernel
theorem dX1_countOfSize_21 : decode cX1_countOfSize 21 = .ok (.iload_n 3, 1) := by decide +kernel
theorem dX1_countOfSize_22 : decode cX1_countOfSize 22 = .ok (.invokevirtual 21, 3) := by decide +kernel
theorem dX1_countOfSize_25 : decode cX1_countOfSize 25 = .ok (.ifCond .eq 6, 3) := by decide +kernel
theorem dX1_countOfSize_28 : decode cX1_countOfSize 28 = .ok (.iinc 2 1, 3) := by decide +kernel
theorem dX1_countOfSize_31 : decode cX1_countOfSize 31 = .ok (.iinc 3 1, 3) := by decide +kernel
theorem dX1_countOfSize_34 : decode cX1_countOfSize 34 = .ok (.goto (-30), 3) := by decide +kernel
theorem dX1_countOfSize_37 : decode cX1_countOfSize 37 = .ok (.iload_n 2, 1) := by decide +kernel
theorem dX1_countOfSize_38 : decode cX1_countOfSize 38 = .ok (.ireturn, 1) := by decide +kernel
theorem dX1_countAhead_0 : decode cX1_countAhead 0 = .ok (.iconst 0, 1) := by decide +kernel
theorem dX1_countAhead_1 : decode cX1_countAhead 1 = .ok (.istore_n 2, 1) := by decide +kernel
theorem dX1_countAhead_2 : decode cX1_countAhead 2 = .ok (.iconst 0, 1) := by decide +kernel
theorem dX1_countAhead_3 : decode cX1_countAhead 3 = .ok (.istore_n 3, 1) := by decide +kernel
theorem dX1_countAhead_4 : decode cX1_countAhead 4 = .ok (.iload_n 3, 1) := by decide +kernel
theorem dX1_countAhead_5 : decode cX1_countAhead 5 = .ok (.aload_n 0, 1) := by decide +kernel
theorem dX1_countAhead_6 : decode cX1_countAhead 6 = .ok (.invokevirtual 15, 3) := by decide +kernel
theorem dX1_countAhead_9 : decode cX1_countAhead 9 = .ok (.if_icmp .ge 28, 3) := by decide +kernel
theorem dX1_countAhead_12 : decode cX1_countAhead 12 = .ok (.iload_n 3, 1) := by decide +kernel
theorem dX1_countAhead_13 : decode cX1_countAhead 13 = .ok (.iload_n 1, 1) := by decide +kernel
theorem dX1_countAhead_14 : decode cX1_countAhead 14 = .ok (.invokestatic 25, 3) := by decide +kernel
theorem dX1_countAhead_17 : decode cX1_countAhead 17 = .ok (.ifCond .eq 14, 3) := by decide +kernel
theorem dX1_countAhead_20 : decode cX1_countAhead 20 = .ok (.aload_n 0, 1) := by decide +kernel
theorem dX1_countAhead_21 : decode cX1_countAhead 21 = .ok (.iload_n 3, 1) := by decide +kernel
theorem dX1_countAhead_22 : decode cX1_countAhead 22 = .ok (.invokevirtual 21, 3) := by decide +kernel
theorem dX1_countAhead_25 : decode cX1_countAhead 25 = .ok (.ifCond .eq 6, 3) := by decide +kernel
theorem dX1_countAhead_28 : decode cX1_countAhead 28 = .ok (.iinc 2 1, 3) := by decide +kernel
theorem dX1_countAhead_31 : decode cX1_countAhead 31 = .ok (.iinc 3 1, 3) := by decide +kernel
theorem dX1_countAhead_34 : decode cX1_countAhead 34 = .ok (.goto (-30), 3) := by decide +kernel
theorem dX1_countAhead_37 : decode cX1_countAhead 37 = .ok (.iload_n 2, 1) := by decide +kernel
theorem dX1_countAhead_38 : decode cX1_countAhead 38 = .ok (.ireturn, 1) := by decide +kernel
theorem dX1_countShared_0 : decode cX1_countShared 0 = .ok (.iconst 0, 1) := by decide +kernel
theorem dX1_countShared_1 : decode cX1_countShared 1 = .ok (.istore_n 2, 1) := by decide +kernel
theorem dX1_countShared_2 : decode cX1_countShared 2 = .ok (.iconst 0, 1) := by decide +kernel
theorem dX1_countShared_3 : decode cX1_countShared 3 = .ok (.istore_n 3, 1) := by decide +kernel
theorem dX1_countShared_4 : decode cX1_countShared 4 = .ok (.iload_n 3, 1) := by decide +kernel
theorem dX1_countShared_5 : decode cX1_countShared 5 = .ok (.aload_n 0, 1) := by decide +kernel
theorem dX1_countShared_6 : decode cX1_countShared 6 = .ok (.invokevirtual 15, 3) := by decide +kernel
theorem dX1_countShared_9 : decode cX1_countShared 9 = .ok (.if_icmp .ge 28, 3) := by decide +kernel
theorem dX1_countShared_12 : decode cX1_countShared 12 = .ok (.aload_n 0, 1) := by decide +kernel
theorem dX1_countShared_13 : decode cX1_countShared 13 = .ok (.iload_n 3, 1) := by decide +kernel
theorem dX1_countShared_14 : decode cX1_countShared 14 = .ok (.invokevirtual 21, 3) := by decide +kernel
theorem dX1_countShared_17 : decode cX1_countShared 17 = .ok (.ifCond .eq 14, 3) := by decide +kernel
theorem dX1_countShared_20 : decode cX1_countShared 20 = .ok (.aload_n 1, 1) := by decide +kernel
theorem dX1_countShared_21 : decode cX1_countShared 21 = .ok (.iload_n 3, 1) := by decide +kernel
theorem dX1_countShared_22 : decode cX1_countShared 22 = .ok (.invokevirtual 21, 3) := by decide +kernel
theorem dX1_countShared_25 : decode cX1_countShared 25 = .ok (.ifCond .eq 6, 3) := by decide +kernel
theorem dX1_countShared_28 : decode cX1_countShared 28 = .ok (.iinc 2 1, 3) := by decide +kernel
theorem dX1_countShared_31 : decode cX1_countShared 31 = .ok (.iinc 3 1, 3) := by decide +kernel
theorem dX1_countShared_34 : decode cX1_countShared 34 = .ok (.goto (-30), 3) := by decide +kernel
theorem dX1_countShared_37 : decode cX1_countShared 37 = .ok (.iload_n 2, 1) := by decide +kernel
theorem dX1_countShared_38 : decode cX1_countShared 38 = .ok (.ireturn, 1) := by decide +kernel
theorem dX1_findAt_0 : decode cX1_findAt 0 = .ok (.iconst 0, 1) := by decide +kernel
theorem dX1_findAt_1 : decode cX1_findAt 1 = .ok (.istore_n 2, 1) := by decide +kernel
theorem dX1_findAt_2 : decode cX1_findAt 2 = .ok (.iconst 0, 1) := by decide +kernel
theorem dX1_findAt_3 : decode cX1_findAt 3 = .ok (.istore_n 3, 1) := by decide +kernel
theorem dX1_findAt_4 : decode cX1_findAt 4 = .ok (.iload_n 3, 1) := by decide +kernel
theorem dX1_findAt_5 : decode cX1_findAt 5 = .ok (.aload_n 0, 1) := by decide +kernel
theorem dX1_findAt_6 : decode cX1_findAt 6 = .ok (.getfield 31, 3) := by decide +kernel
theorem dX1_findAt_9 : decode cX1_findAt 9 = .ok (.if_icmp .gt 56, 3) := by decide +kernel
theorem dX1_findAt_12 : decode cX1_findAt 12 = .ok (.iconst 0, 1) := by decide +kernel
theorem dX1_findAt_13 : decode cX1_findAt 13 = .ok (.istore 4, 2) := by decide +kernel
theorem dX1_findAt_15 : decode cX1_findAt 15 = .ok (.iload 4, 2) := by decide +kernel
theorem dX1_findAt_17 : decode cX1_findAt 17 = .ok (.aload_n 0, 1) := by decide +kernel
theorem dX1_findAt_18 : decode cX1_findAt 18 = .ok (.invokevirtual 15, 3) := by decide +kernel
theorem dX1_findAt_21 : decode cX1_findAt 21 = .ok (.if_icmp .ge 38, 3) := by decide +kernel
theorem dX1_findAt_24 : decode cX1_findAt 24 = .ok (.iload 4, 2) := by decide +kernel
theorem dX1_findAt_26 : decode cX1_findAt 26 = .ok (.invokestatic 9, 3) := by decide +kernel
theorem dX1_findAt_29 : decode cX1_findAt 29 = .ok (.iload_n 3, 1) := by decide +kernel
theorem dX1_findAt_30 : decode cX1_findAt 30 = .ok (.if_icmp .ne 23, 3) := by decide +kernel
theorem dX1_findAt_33 : decode cX1_findAt 33 = .ok (.aload_n 0, 1) := by decide +kernel
theorem dX1_findAt_34 : decode cX1_findAt 34 = .ok (.iload 4, 2) := by decide +kernel
theorem dX1_findAt_36 : decode cX1_findAt 36 = .ok (.invokevirtual 21, 3) := by decide +kernel
theorem dX1_findAt_39 : decode cX1_findAt 39 = .ok (.ifCond .eq 14, 3) := by decide +kernel
theorem dX1_findAt_42 : decode cX1_findAt 42 = .ok (.iload_n 2, 1) := by decide +kernel
theorem dX1_findAt_43 : decode cX1_findAt 43 = .ok (.iload_n 1, 1) := by decide +kernel
theorem dX1_findAt_44 : decode cX1_findAt 44 = .ok (.if_icmp .ne 6, 3) := by decide +kernel
theorem dX1_findAt_47 : decode cX1_findAt 47 = .ok (.iload 4, 2) := by decide +kernel
theorem dX1_findAt_49 : decode cX1_findAt 49 = .ok (.ireturn, 1) := by decide +kernel
theorem dX1_findAt_50 : decode cX1_findAt 50 = .ok (.iinc 2 1, 3) := by decide +kernel
theorem dX1_findAt_53 : decode cX1_findAt 53 = .ok (.iinc 4 1, 3) := by decide +kernel
theorem dX1_findAt_56 : decode cX1_findAt 56 = .ok (.goto (-41), 3) := by decide +kernel
theorem dX1_findAt_59 : decode cX1_findAt 59 = .ok (.iinc 3 1, 3) := by decide +kernel
theorem dX1_findAt_62 : decode cX1_findAt 62 = .ok (.goto (-58), 3) := by decide +kernel
theorem dX1_findAt_65 : decode cX1_findAt 65 = .ok (.iconst (-1), 1) := by decide +kernel
theorem dX1_findAt_66 : decode cX1_findAt 66 = .ok (.ireturn, 1) := by decide +kernel
theorem dX1_lastAhead_0 : decode cX1_lastAhead 0 = .ok (.iconst (-1), 1) := by decide +kernel
theorem dX1_lastAhead_1 : decode cX1_lastAhead 1 = .ok (.istore_n 2, 1) := by decide +kernel
theorem dX1_lastAhead_2 : decode cX1_lastAhead 2 = .ok (.iconst 0, 1) := by decide +kernel
theorem dX1_lastAhead_3 : decode cX1_lastAhead 3 = .ok (.istore_n 3, 1) := by decide +kernel
theorem dX1_lastAhead_4 : decode cX1_lastAhead 4 = .ok (.iload_n 3, 1) := by decide +kernel
theorem dX1_lastAhead_5 : decode cX1_lastAhead 5 = .ok (.aload_n 0, 1) := by decide +kernel
theorem dX1_lastAhead_6 : decode cX1_lastAhead 6 = .ok (.invokevirtual 15, 3) := by decide +kernel
theorem dX1_lastAhead_9 : decode cX1_lastAhead 9 = .ok (.if_icmp .ge 40, 3) := by decide +kernel
theorem dX1_lastAhead_12 : decode cX1_lastAhead 12 = .ok (.iload_n 3, 1) := by decide +kernel
theorem dX1_lastAhead_13 : decode cX1_lastAhead 13 = .ok (.iload_n 1, 1) := by decide +kernel
theorem dX1_lastAhead_14 : decode cX1_lastAhead 14 = .ok (.invokestatic 25, 3) := by decide +kernel
theorem dX1_lastAhead_17 : decode cX1_lastAhead 17 = .ok (.ifCond .eq 26, 3) := by decide +kernel
theorem dX1_lastAhead_20 : decode cX1_lastAhead 20 = .ok (.iload_n 2, 1) := by decide +kernel
theorem dX1_lastAhead_21 : decode cX1_lastAhead 21 = .ok (.iconst (-1), 1) := by decide +kernel
theorem dX1_lastAhead_22 : decode cX1_lastAhead 22 = .ok (.if_icmp .eq 11, 3) := by decide +kernel
theorem dX1_lastAhead_25 : decode cX1_lastAhead 25 = .ok (.iload_n 2, 1) := by decide +kernel
theorem dX1_lastAhead_26 : decode cX1_lastAhead 26 = .ok (.iload_n 3, 1) := by decide +kernel
theorem dX1_lastAhead_27 : decode cX1_lastAhead 27 = .ok (.invokestatic 25, 3) := by decide +kernel
theorem dX1_lastAhead_30 : decode cX1_lastAhead 30 = .ok (.ifCond .eq 13, 3) := by decide +kernel
theorem dX1_lastAhead_33 : decode cX1_lastAhead 33 = .ok (.aload_n 0, 1) := by decide +kernel
theorem dX1_lastAhead_34 : decode cX1_lastAhead 34 = .ok (.iload_n 3, 1) := by decide +kernel
theorem dX1_lastAhead_35 : decode cX1_lastAhead 35 = .ok (.invokevirtual 21, 3) := by decide +kernel
theorem dX1_lastAhead_38 : decode cX1_lastAhead 38 = .ok (.ifCond .eq 5, 3) := by decide +kernel
theorem dX1_lastAhead_41 : decode cX1_lastAhead 41 = .ok (.iload_n 3, 1) := by decide +kernel
theorem dX1_lastAhead_42 : decode cX1_lastAhead 42 = .ok (.istore_n 2, 1) := by decide +kernel
theorem dX1_lastAhead_43 : decode cX1_lastAhead 43 = .ok (.iinc 3 1, 3) := by decide +kernel
theorem dX1_lastAhead_46 : decode cX1_lastAhead 46 = .ok (.goto (-42), 3) := by decide +kernel
theorem dX1_lastAhead_49 : decode cX1_lastAhead 49 = .ok (.iload_n 2, 1) := by decide +kernel
theorem dX1_lastAhead_50 : decode cX1_lastAhead 50 = .ok (.ireturn, 1) := by decide +kernel
theorem dX1_firstBehind_0 : decode cX1_firstBehind 0 = .ok (.iconst (-1), 1) := by decide +kernel
theorem dX1_firstBehind_1 : decode cX1_firstBehind 1 = .ok (.istore_n 2, 1) := by decide +kernel
theorem dX1_firstBehind_2 : decode cX1_firstBehind 2 = .ok (.iconst 0, 1) := by decide +kernel
theorem dX1_firstBehind_3 : decode cX1_firstBehind 3 = .ok (.istore_n 3, 1) := by decide +kernel
theorem dX1_firstBehind_4 : decode cX1_firstBehind 4 = .ok (.iload_n 3, 1) := by decide +kernel
theorem dX1_firstBehind_5 : decode cX1_firstBehind 5 = .ok (.aload_n 0, 1) := by decide +kernel
theorem dX1_firstBehind_6 : decode cX1_firstBehind 6 = .ok (.invokevirtual 15, 3) := by decide +kernel
theorem dX1_firstBehind_9 : decode cX1_firstBehind 9 = .ok (.if_icmp .ge 40, 3) := by decide +kernel
theorem dX1_firstBehind_12 : decode cX1_firstBehind 12 = .ok (.iload_n 1, 1) := by decide +kernel
theorem dX1_firstBehind_13 : decode cX1_firstBehind 13 = .ok (.iload_n 3, 1) := by decide +kernel
theorem dX1_firstBehind_14 : decode cX1_firstBehind 14 = .ok (.invokestatic 25, 3) := by decide +kernel
theorem dX1_firstBehind_17 : decode cX1_firstBehind 17 = .ok (.ifCond .eq 26, 3) := by decide +kernel
theorem dX1_firstBehind_20 : decode cX1_firstBehind 20 = .ok (.iload_n 2, 1) := by decide +kernel
theorem dX1_firstBehind_21 : decode cX1_firstBehind 21 = .ok (.iconst (-1), 1) := by decide +kernel
theorem dX1_firstBehind_22 : decode cX1_firstBehind 22 = .ok (.if_icmp .eq 11, 3) := by decide +kernel
theorem dX1_firstBehind_25 : decode cX1_firstBehind 25 = .ok (.iload_n 3, 1) := by decide +kernel
theorem dX1_firstBehind_26 : decode cX1_firstBehind 26 = .ok (.iload_n 2, 1) := by decide +kernel
theorem dX1_firstBehind_27 : decode cX1_firstBehind 27 = .ok (.invokestatic 25, 3) := by decide +kernel
theorem dX1_firstBehind_30 : decode cX1_firstBehind 30 = .ok (.ifCond .eq 13, 3) := by decide +kernel
theorem dX1_firstBehind_33 : decode cX1_firstBehind 33 = .ok (.aload_n 0, 1) := by decide +kernel
theorem dX1_firstBehind_34 : decode cX1_firstBehind 34 = .ok (.iload_n 3, 1) := by decide +kernel
theorem dX1_firstBehind_35 : decode cX1_firstBehind 35 = .ok (.invokevirtual 21, 3) := by decide +kernel
theorem dX1_firstBehind_38 : decode cX1_firstBehind 38 = .ok (.ifCond .eq 5, 3) := by decide +kernel
theorem dX1_firstBehind_41 : decode cX1_firstBehind 41 = .ok (.iload_n 3, 1) := by decide +kernel
theorem dX1_firstBehind_42 : decode cX1_firstBehind 42 = .ok (.istore_n 2, 1) := by decide +kernel
theorem dX1_firstBehind_43 : decode cX1_firstBehind 43 = .ok (.iinc 3 1, 3) := by decide +kernel
theorem dX1_firstBehind_46 : decode cX1_firstBehind 46 = .ok (.goto (-42), 3) := by decide +kernel
theorem dX1_firstBehind_49 : decode cX1_firstBehind 49 = .ok (.iload_n 2, 1) := by decide +kernel
theorem dX1_firstBehind_50 : decode cX1_firstBehind 50 = .ok (.ireturn, 1) := by decide +kernel
theorem dX2_sumBelow_0 : decode cX2_sumBelow 0 = .ok (.iconst 0, 1) := by decide +kernel
theorem dX2_sumBelow_1 : decode cX2_sumBelow 1 = .ok (.istore_n 3, 1) := by decide +kernel
theorem dX2_sumBelow_2 : decode cX2_sumBelow 2 = .ok (.iconst 0, 1) := by decide +kernel
theorem dX2_sumBelow_3 : decode cX2_sumBelow 3 = .ok (.istore 4, 2) := by decide +kernel
theorem dX2_sumBelow_5 : decode cX2_sumBelow 5 = .ok (.iload 4, 2) := by decide +kernel
theorem dX2_sumBelow_7 : decode cX2_sumBelow 7 = .ok (.aload_n 1, 1) := by decide +kernel
theorem dX2_sumBelow_8 : decode cX2_sumBelow 8 = .ok (.getfield 19, 3) := by decide +kernel
theorem dX2_sumBelow_11 : decode cX2_sumBelow 11 = .ok (.if_icmp .ge 33, 3) := by decide +kernel
theorem dX2_sumBelow_14 : decode cX2_sumBelow 14 = .ok (.aload_n 1, 1) := by decide +kernel
theorem dX2_sumBelow_15 : decode cX2_sumBelow 15 = .ok (.getfield 33, 3) := by decide +kernel
theorem dX2_sumBelow_18 : decode cX2_sumBelow 18 = .ok (.iload_n 2, 1) := by decide +kernel
theorem dX2_sumBelow_19 : decode cX2_sumBelow 19 = .ok (.iaload, 1) := by decide +kernel
theorem dX2_sumBelow_20 : decode cX2_sumBelow 20 = .ok (.iload 4, 2) := by decide +kernel
theorem dX2_sumBelow_22 : decode cX2_sumBelow 22 = .ok (.invokestatic 45, 3) := by decide +kernel
theorem dX2_sumBelow_25 : decode cX2_sumBelow 25 = .ok (.ifCond .eq 13, 3) := by decide +kernel
theorem dX2_sumBelow_28 : decode cX2_sumBelow 28 = .ok (.iload_n 3, 1) := by decide +kernel
theorem dX2_sumBelow_29 : decode cX2_sumBelow 29 = .ok (.aload_n 0, 1) := by decide +kernel
theorem dX2_sumBelow_30 : decode cX2_sumBelow 30 = .ok (.getfield 9, 3) := by decide +kernel
theorem dX2_sumBelow_33 : decode cX2_sumBelow 33 = .ok (.iload 4, 2) := by decide +kernel
theorem dX2_sumBelow_35 : decode cX2_sumBelow 35 = .ok (.iaload, 1) := by decide +kernel
theorem dX2_sumBelow_36 : decode cX2_sumBelow 36 = .ok (.iadd, 1) := by decide +kernel
theorem dX2_sumBelow_37 : decode cX2_sumBelow 37 = .ok (.istore_n 3, 1) := by decide +kernel
theorem dX2_sumBelow_38 : decode cX2_sumBelow 38 = .ok (.iinc 4 1, 3) := by decide +kernel
theorem dX2_sumBelow_41 : decode cX2_sumBelow 41 = .ok (.goto (-36), 3) := by decide +kernel
theorem dX2_sumBelow_44 : decode cX2_sumBelow 44 = .ok (.iload_n 3, 1) := by decide +kernel
theorem dX2_sumBelow_45 : decode cX2_sumBelow 45 = .ok (.ireturn, 1) := by decide +kernel
theorem dX2_fillFrom_0 : decode cX2_fillFrom 0 = .ok (.iconst 0, 1) := by decide +kernel
theorem dX2_fillFrom_1 : decode cX2_fillFrom 1 = .ok (.istore_n 3, 1) := by decide +kernel
theorem dX2_fillFrom_2 : decode cX2_fillFrom 2 = .ok (.iload_n 3, 1) := by decide +kernel
theorem dX2_fillFrom_3 : decode cX2_fillFrom 3 = .ok (.aload_n 1, 1) := by decide +kernel
theorem dX2_fillFrom_4 : decode cX2_fillFrom 4 = .ok (.getfield 19, 3) := by decide +kernel
theorem dX2_fillFrom_7 : decode cX2_fillFrom 7 = .ok (.if_icmp .ge 66, 3) := by decide +kernel
theorem dX2_fillFrom_10 : decode cX2_fillFrom 10 = .ok (.iconst 0, 1) := by decide +kernel
theorem dX2_fillFrom_11 : decode cX2_fillFrom 11 = .ok (.istore 4, 2) := by decide +kernel
theorem dX2_fillFrom_13 : decode cX2_fillFrom 13 = .ok (.iload 4, 2) := by decide +kernel
theorem dX2_fillFrom_15 : decode cX2_fillFrom 15 = .ok (.aload_n 1, 1) := by decide +kernel
theorem dX2_fillFrom_16 : decode cX2_fillFrom 16 = .ok (.getfield 19, 3) := by decide +kernel
theorem dX2_fillFrom_19 : decode cX2_fillFrom 19 = .ok (.if_icmp .ge 48, 3) := by decide +kernel
theorem dX2_fillFrom_22 : decode cX2_fillFrom 22 = .ok (.aload_n 1, 1) := by decide +kernel
theorem dX2_fillFrom_23 : decode cX2_fillFrom 23 = .ok (.getfield 33, 3) := by decide +kernel
theorem dX2_fillFrom_26 : decode cX2_fillFrom 26 = .ok (.iload 4, 2) := by decide +kernel
theorem dX2_fillFrom_28 : decode cX2_fillFrom 28 = .ok (.iaload, 1) := by decide +kernel
theorem dX2_fillFrom_29 : decode cX2_fillFrom 29 = .ok (.invokestatic 36, 3) := by decide +kernel
theorem dX2_fillFrom_32 : decode cX2_fillFrom 32 = .ok (.iload_n 3, 1) := by decide +kernel
theorem dX2_fillFrom_33 : decode cX2_fillFrom 33 = .ok (.if_icmp .ne 28, 3) := by decide +kernel
theorem dX2_fillFrom_36 : decode cX2_fillFrom 36 = .ok (.aload_n 0, 1) := by decide +kernel
theorem dX2_fillFrom_37 : decode cX2_fillFrom 37 = .ok (.getfield 9, 3) := by decide +kernel
theorem dX2_fillFrom_40 : decode cX2_fillFrom 40 = .ok (.iload 4, 2) := by decide +kernel
theorem dX2_fillFrom_42 : decode cX2_fillFrom 42 = .ok (.iload 4, 2) := by decide +kernel
theorem dX2_fillFrom_44 : decode cX2_fillFrom 44 = .ok (.iload_n 2, 1) := by decide +kernel
theorem dX2_fillFrom_45 : decode cX2_fillFrom 45 = .ok (.if_icmp .ne 7, 3) := by decide +kernel
theorem dX2_fillFrom_48 : decode cX2_fillFrom 48 = .ok (.iconst 1, 1) := by decide +kernel
theorem dX2_fillFrom_49 : decode cX2_fillFrom 49 = .ok (.goto 11, 3) := by decide +kernel
theorem dX2_fillFrom_52 : decode cX2_fillFrom 52 = .ok (.aload_n 0, 1) := by decide +kernel
theorem dX2_fillFrom_53 : decode cX2_fillFrom 53 = .ok (.aload_n 1, 1) := by decide +kernel
theorem dX2_fillFrom_54 : decode cX2_fillFrom 54 = .ok (.iload 4, 2) := by decide +kernel
theorem dX2_fillFrom_56 : decode cX2_fillFrom 56 = .ok (.invokevirtual 41, 3) := by decide +kernel
theorem dX2_fillFrom_59 : decode cX2_fillFrom 59 = .ok (.ineg, 1) := by decide +kernel
theorem dX2_fillFrom_60 : decode cX2_fillFrom 60 = .ok (.iastore, 1) := by decide +kernel
theorem dX2_fillFrom_61 : decode cX2_fillFrom 61 = .ok (.iinc 4 1, 3) := by decide +kernel
theorem dX2_fillFrom_64 : decode cX2_fillFrom 64 = .ok (.goto (-51), 3) := by decide +kernel
theorem dX2_fillFrom_67 : decode cX2_fillFrom 67 = .ok (.iinc 3 1, 3) := by decide +kernel
theorem dX2_fillFrom_70 : decode cX2_fillFrom 70 = .ok (.goto (-68), 3) := by decide +kernel
theorem dX2_fillFrom_73 : decode cX2_fillFrom 73 = .ok (.return_, 1) := by decide +kernel
theorem dX2_between_0 : decode cX2_between 0 = .ok (.aload_n 0, 1) := by decide +kernel
theorem dX2_between_1 : decode cX2_between 1 = .ok (.aload_n 1, 1) := by decide +kernel
theorem dX2_between_2 : decode cX2_between 2 = .ok (.iload_n 2, 1) := by decide +kernel
theorem dX2_between_3 : decode cX2_between 3 = .ok (.invokevirtual 15, 3) := by decide +kernel
theorem dX2_between_6 : decode cX2_between 6 = .ok (.aload_n 0, 1) := by decide +kernel
theorem dX2_between_7 : decode cX2_between 7 = .ok (.getfield 9, 3) := by decide +kernel
theorem dX2_between_10 : decode cX2_between 10 = .ok (.iload_n 3, 1) := by decide +kernel
theorem dX2_between_11 : decode cX2_between 11 = .ok (.iaload, 1) := by decide +kernel
theorem dX2_between_12 : decode cX2_between 12 = .ok (.ireturn, 1) := by decide +kernel
theorem dX3_sumUpTo_0 : decode cX3_sumUpTo 0 = .ok (.aload_n 0, 1) := by decide +kernel
theorem dX3_sumUpTo_1 : decode cX3_sumUpTo 1 = .ok (.getfield 15, 3) := by decide +kernel
theorem dX3_sumUpTo_4 : decode cX3_sumUpTo 4 = .ok (.iload_n 1, 1) := by decide +kernel
theorem dX3_sumUpTo_5 : decode cX3_sumUpTo 5 = .ok (.iaload, 1) := by decide +kernel
theorem dX3_sumUpTo_6 : decode cX3_sumUpTo 6 = .ok (.istore_n 2, 1) := by decide +kernel
theorem dX3_sumUpTo_7 : decode cX3_sumUpTo 7 = .ok (.iconst 0, 1) := by decide +kernel
theorem dX3_sumUpTo_8 : decode cX3_sumUpTo 8 = .ok (.istore_n 3, 1) := by decide +kernel
theorem dX3_sumUpTo_9 : decode cX3_sumUpTo 9 = .ok (.iload_n 3, 1) := by decide +kernel
theorem dX3_sumUpTo_10 : decode cX3_sumUpTo 10 = .ok (.aload_n 0, 1) := by decide +kernel
theorem dX3_sumUpTo_11 : decode cX3_sumUpTo 11 = .ok (.getfield 22, 3) := by decide +kernel
theorem dX3_sumUpTo_14 : decode cX3_sumUpTo 14 = .ok (.if_icmp .ge 27, 3) := by decide +kernel
theorem dX3_sumUpTo_17 : decode cX3_sumUpTo 17 = .ok (.aload_n 0, 1) := by decide +kernel
theorem dX3_sumUpTo_18 : decode cX3_sumUpTo 18 = .ok (.iload_n 3, 1) := by decide +kernel
theorem dX3_sumUpTo_19 : decode cX3_sumUpTo 19 = .ok (.iload_n 1, 1) := by decide +kernel
theorem dX3_sumUpTo_20 : decode cX3_sumUpTo 20 = .ok (.invokevirtual 38, 3) := by decide +kernel
theorem dX3_sumUpTo_23 : decode cX3_sumUpTo 23 = .ok (.ifCond .eq 12, 3) := by decide +kernel
theorem dX3_sumUpTo_26 : decode cX3_sumUpTo 26 = .ok (.iload_n 2, 1) := by decide +kernel
theorem dX3_sumUpTo_27 : decode cX3_sumUpTo 27 = .ok (.aload_n 0, 1) := by decide +kernel
theorem dX3_sumUpTo_28 : decode cX3_sumUpTo 28 = .ok (.getfield 15, 3) := by decide +kernel
theorem dX3_sumUpTo_31 : decode cX3_sumUpTo 31 = .ok (.iload_n 3, 1) := by decide +kernel
theorem dX3_sumUpTo_32 : decode cX3_sumUpTo 32 = .ok (.iaload, 1) := by decide +kernel
theorem dX3_sumUpTo_33 : decode cX3_sumUpTo 33 = .ok (.iadd, 1) := by decide +kernel
theorem dX3_sumUpTo_34 : decode cX3_sumUpTo 34 = .ok (.istore_n 2, 1) := by decide +kernel
theorem dX3_sumUpTo_35 : decode cX3_sumUpTo 35 = .ok (.iinc 3 1, 3) := by decide +kernel
theorem dX3_sumUpTo_38 : decode cX3_sumUpTo 38 = .ok (.goto (-29), 3) := by decide +kernel
theorem dX3_sumUpTo_41 : decode cX3_sumUpTo 41 = .ok (.iload_n 2, 1) := by decide +kernel
theorem dX3_sumUpTo_42 : decode cX3_sumUpTo 42 = .ok (.ireturn, 1) := by decide +kernel
theorem dX2_undoSums_0 : decode cX2_undoSums 0 = .ok (.iconst 0, 1) := by decide +kernel
theorem dX2_undoSums_1 : decode cX2_undoSums 1 = .ok (.istore_n 3, 1) := by decide +kernel
theorem dX2_undoSums_2 : decode cX2_undoSums 2 = .ok (.iconst 0, 1) := by decide +kernel
theorem dX2_undoSums_3 : decode cX2_undoSums 3 = .ok (.istore 4, 2) := by decide +kernel
theorem dX2_undoSums_5 : decode cX2_undoSums 5 = .ok (.iload 4, 2) := by decide +kernel
theorem dX2_undoSums_7 : decode cX2_undoSums 7 = .ok (.aload_n 1, 1) := by decide +kernel
theorem dX2_undoSums_8 : decode cX2_undoSums 8 = .ok (.getfield 19, 3) := by decide +kernel
theorem dX2_undoSums_11 : decode cX2_undoSums 11 = .ok (.if_icmp .ge 48, 3) := by decide +kernel
theorem dX2_undoSums_14 : decode cX2_undoSums 14 = .ok (.iload 4, 2) := by decide +kernel
theorem dX2_undoSums_16 : decode cX2_undoSums 16 = .ok (.iload_n 2, 1) := by decide +kernel
theorem dX2_undoSums_17 : decode cX2_undoSums 17 = .ok (.if_icmp .eq 13, 3) := by decide +kernel
theorem dX2_undoSums_20 : decode cX2_undoSums 20 = .ok (.aload_n 1, 1) := by decide +kernel
theorem dX2_undoSums_21 : decode cX2_undoSums 21 = .ok (.iload 4, 2) := by decide +kernel
theorem dX2_undoSums_23 : decode cX2_undoSums 23 = .ok (.iload_n 2, 1) := by decide +kernel
theorem dX2_undoSums_24 : decode cX2_undoSums 24 = .ok (.invokevirtual 25, 3) := by decide +kernel
theorem dX2_undoSums_27 : decode cX2_undoSums 27 = .ok (.ifCond .eq 26, 3) := by decide +kernel
theorem dX2_undoSums_30 : decode cX2_undoSums 30 = .ok (.aload_n 0, 1) := by decide +kernel
theorem dX2_undoSums_31 : decode cX2_undoSums 31 = .ok (.aload_n 1, 1) := by decide +kernel
theorem dX2_undoSums_32 : decode cX2_undoSums 32 = .ok (.iload 4, 2) := by decide +kernel
theorem dX2_undoSums_34 : decode cX2_undoSums 34 = .ok (.invokevirtual 15, 3) := by decide +kernel
theorem dX2_undoSums_37 : decode cX2_undoSums 37 = .ok (.iload_n 3, 1) := by decide +kernel
theorem dX2_undoSums_38 : decode cX2_undoSums 38 = .ok (.aload_n 1, 1) := by decide +kernel
theorem dX2_undoSums_39 : decode cX2_undoSums 39 = .ok (.iload 4, 2) := by decide +kernel
theorem dX2_undoSums_41 : decode cX2_undoSums 41 = .ok (.invokevirtual 29, 3) := by decide +kernel
theorem dX2_undoSums_44 : decode cX2_undoSums 44 = .ok (.aload_n 0, 1) := by decide +kernel
theorem dX2_undoSums_45 : decode cX2_undoSums 45 = .ok (.getfield 9, 3) := by decide +kernel
theorem dX2_undoSums_48 : decode cX2_undoSums 48 = .ok (.iload_n 2, 1) := by decide +kernel
theorem dX2_undoSums_49 : decode cX2_undoSums 49 = .ok (.iaload, 1) := by decide +kernel
theorem dX2_undoSums_50 : decode cX2_undoSums 50 = .ok (.imul, 1) := by decide +kernel
theorem dX2_undoSums_51 : decode cX2_undoSums 51 = .ok (.iadd, 1) := by decide +kernel
theorem dX2_undoSums_52 : decode cX2_undoSums 52 = .ok (.istore_n 3, 1) := by decide +kernel
theorem dX2_undoSums_53 : decode cX2_undoSums 53 = .ok (.iinc 4 1, 3) := by decide +kernel
theorem dX2_undoSums_56 : decode cX2_undoSums 56 = .ok (.goto (-51), 3) := by decide +kernel
theorem dX2_undoSums_59 : decode cX2_undoSums 59 = .ok (.iload_n 3, 1) := by decide +kernel
theorem dX2_undoSums_60 : decode cX2_undoSums 60 = .ok (.ireturn, 1) := by decide +kernel
theorem dX2_vanishFrom_0 : decode cX2_vanishFrom 0 = .ok (.aload_n 0, 1) := by decide +kernel
theorem dX2_vanishFrom_1 : decode cX2_vanishFrom 1 = .ok (.aload_n 1, 1) := by decide +kernel
theorem dX2_vanishFrom_2 : decode cX2_vanishFrom 2 = .ok (.iload_n 2, 1) := by decide +kernel
theorem dX2_vanishFrom_3 : decode cX2_vanishFrom 3 = .ok (.invokevirtual 15, 3) := by decide +kernel
theorem dX2_vanishFrom_6 : decode cX2_vanishFrom 6 = .ok (.iconst 0, 1) := by decide +kernel
theorem dX2_vanishFrom_7 : decode cX2_vanishFrom 7 = .ok (.istore_n 3, 1) := by decide +kernel
theorem dX2_vanishFrom_8 : decode cX2_vanishFrom 8 = .ok (.iload_n 3, 1) := by decide +kernel
theorem dX2_vanishFrom_9 : decode cX2_vanishFrom 9 = .ok (.aload_n 1, 1) := by decide +kernel
theorem dX2_vanishFrom_10 : decode cX2_vanishFrom 10 = .ok (.getfield 19, 3) := by decide +kernel
theorem dX2_vanishFrom_13 : decode cX2_vanishFrom 13 = .ok (.if_icmp .ge 94, 3) := by decide +kernel
theorem dX2_vanishFrom_16 : decode cX2_vanishFrom 16 = .ok (.aload_n 1, 1) := by decide +kernel
theorem dX2_vanishFrom_17 : decode cX2_vanishFrom 17 = .ok (.iload_n 2, 1) := by decide +kernel
theorem dX2_vanishFrom_18 : decode cX2_vanishFrom 18 = .ok (.iload_n 3, 1) := by decide +kernel
theorem dX2_vanishFrom_19 : decode cX2_vanishFrom 19 = .ok (.invokevirtual 25, 3) := by decide +kernel
theorem dX2_vanishFrom_22 : decode cX2_vanishFrom 22 = .ok (.ifCond .eq 79, 3) := by decide +kernel
theorem dX2_vanishFrom_25 : decode cX2_vanishFrom 25 = .ok (.aload_n 0, 1) := by decide +kernel
theorem dX2_vanishFrom_26 : decode cX2_vanishFrom 26 = .ok (.getfield 9, 3) := by decide +kernel
theorem dX2_vanishFrom_29 : decode cX2_vanishFrom 29 = .ok (.iload_n 2, 1) := by decide +kernel
theorem dX2_vanishFrom_30 : decode cX2_vanishFrom 30 = .ok (.iaload, 1) := by decide +kernel
theorem dX2_vanishFrom_31 : decode cX2_vanishFrom 31 = .ok (.aload_n 0, 1) := by decide +kernel
theorem dX2_vanishFrom_32 : decode cX2_vanishFrom 32 = .ok (.getfield 9, 3) := by decide +kernel
theorem dX2_vanishFrom_35 : decode cX2_vanishFrom 35 = .ok (.iload_n 3, 1) := by decide +kernel
theorem dX2_vanishFrom_36 : decode cX2_vanishFrom 36 = .ok (.iaload, 1) := by decide +kernel
theorem dX2_vanishFrom_37 : decode cX2_vanishFrom 37 = .ok (.iadd, 1) := by decide +kernel
theorem dX2_vanishFrom_38 : decode cX2_vanishFrom 38 = .ok (.istore 4, 2) := by decide +kernel
theorem dX2_vanishFrom_40 : decode cX2_vanishFrom 40 = .ok (.iconst 0, 1) := by decide +kernel
theorem dX2_vanishFrom_41 : decode cX2_vanishFrom 41 = .ok (.istore 5, 2) := by decide +kernel
theorem dX2_vanishFrom_43 : decode cX2_vanishFrom 43 = .ok (.iload 5, 2) := by decide +kernel
theorem dX2_vanishFrom_45 : decode cX2_vanishFrom 45 = .ok (.aload_n 1, 1) := by decide +kernel
theorem dX2_vanishFrom_46 : decode cX2_vanishFrom 46 = .ok (.getfield 19, 3) := by decide +kernel
theorem dX2_vanishFrom_49 : decode cX2_vanishFrom 49 = .ok (.if_icmp .ge 45, 3) := by decide +kernel
theorem dX2_vanishFrom_52 : decode cX2_vanishFrom 52 = .ok (.iload 4, 2) := by decide +kernel
theorem dX2_vanishFrom_54 : decode cX2_vanishFrom 54 = .ok (.aload_n 1, 1) := by decide +kernel
theorem dX2_vanishFrom_55 : decode cX2_vanishFrom 55 = .ok (.iload_n 2, 1) := by decide +kernel
theorem dX2_vanishFrom_56 : decode cX2_vanishFrom 56 = .ok (.iload 5, 2) := by decide +kernel
theorem dX2_vanishFrom_58 : decode cX2_vanishFrom 58 = .ok (.invokevirtual 25, 3) := by decide +kernel
theorem dX2_vanishFrom_61 : decode cX2_vanishFrom 61 = .ok (.ifCond .eq 23, 3) := by decide +kernel
theorem dX2_vanishFrom_64 : decode cX2_vanishFrom 64 = .ok (.aload_n 1, 1) := by decide +kernel
theorem dX2_vanishFrom_65 : decode cX2_vanishFrom 65 = .ok (.iload 5, 2) := by decide +kernel
theorem dX2_vanishFrom_67 : decode cX2_vanishFrom 67 = .ok (.iload_n 3, 1) := by decide +kernel
theorem dX2_vanishFrom_68 : decode cX2_vanishFrom 68 = .ok (.invokevirtual 25, 3) := by decide +kernel
theorem dX2_vanishFrom_71 : decode cX2_vanishFrom 71 = .ok (.ifCond .eq 13, 3) := by decide +kernel
theorem dX2_vanishFrom_74 : decode cX2_vanishFrom 74 = .ok (.aload_n 0, 1) := by decide +kernel
theorem dX2_vanishFrom_75 : decode cX2_vanishFrom 75 = .ok (.getfield 9, 3) := by decide +kernel
theorem dX2_vanishFrom_78 : decode cX2_vanishFrom 78 = .ok (.iload 5, 2) := by decide +kernel
theorem dX2_vanishFrom_80 : decode cX2_vanishFrom 80 = .ok (.iaload, 1) := by decide +kernel
theorem dX2_vanishFrom_81 : decode cX2_vanishFrom 81 = .ok (.goto 4, 3) := by decide +kernel
theorem dX2_vanishFrom_84 : decode cX2_vanishFrom 84 = .ok (.iconst 0, 1) := by decide +kernel
theorem dX2_vanishFrom_85 : decode cX2_vanishFrom 85 = .ok (.iadd, 1) := by decide +kernel
theorem dX2_vanishFrom_86 : decode cX2_vanishFrom 86 = .ok (.istore 4, 2) := by decide +kernel
theorem dX2_vanishFrom_88 : decode cX2_vanishFrom 88 = .ok (.iinc 5 1, 3) := by decide +kernel
theorem dX2_vanishFrom_91 : decode cX2_vanishFrom 91 = .ok (.goto (-48), 3) := by decide +kernel
theorem dX2_vanishFrom_94 : decode cX2_vanishFrom 94 = .ok (.iload 4, 2) := by decide +kernel
theorem dX2_vanishFrom_96 : decode cX2_vanishFrom 96 = .ok (.ifCond .eq 5, 3) := by decide +kernel
theorem dX2_vanishFrom_99 : decode cX2_vanishFrom 99 = .ok (.iconst 0, 1) := by decide +kernel
theorem dX2_vanishFrom_100 : decode cX2_vanishFrom 100 = .ok (.ireturn, 1) := by decide +kernel
theorem dX2_vanishFrom_101 : decode cX2_vanishFrom 101 = .ok (.iinc 3 1, 3) := by decide +kernel
theorem dX2_vanishFrom_104 : decode cX2_vanishFrom 104 = .ok (.goto (-96), 3) := by decide +kernel
theorem dX2_vanishFrom_107 : decode cX2_vanishFrom 107 = .ok (.iconst 1, 1) := by decide +kernel
theorem dX2_vanishFrom_108 : decode cX2_vanishFrom 108 = .ok (.ireturn, 1) := by decide +kernel
theorem dX3_clearTo_0 : decode cX3_clearTo 0 = .ok (.aload_n 0, 1) := by decide +kernel
theorem dX3_clearTo_1 : decode cX3_clearTo 1 = .ok (.iload_n 1, 1) := by decide +kernel
theorem dX3_clearTo_2 : decode cX3_clearTo 2 = .ok (.putfield 22, 3) := by decide +kernel
theorem dX3_clearTo_5 : decode cX3_clearTo 5 = .ok (.iconst 0, 1) := by decide +kernel
theorem dX3_clearTo_6 : decode cX3_clearTo 6 = .ok (.istore_n 2, 1) := by decide +kernel
theorem dX3_clearTo_7 : decode cX3_clearTo 7 = .ok (.iload_n 2, 1) := by decide +kernel
theorem dX3_clearTo_8 : decode cX3_clearTo 8 = .ok (.bipush 9, 2) := by decide +kernel
theorem dX3_clearTo_10 : decode cX3_clearTo 10 = .ok (.if_icmp .ge 23, 3) := by decide +kernel
theorem dX3_clearTo_13 : decode cX3_clearTo 13 = .ok (.aload_n 0, 1) := by decide +kernel
theorem dX3_clearTo_14 : decode cX3_clearTo 14 = .ok (.getfield 9, 3) := by decide +kernel
theorem dX3_clearTo_17 : decode cX3_clearTo 17 = .ok (.iload_n 2, 1) := by decide +kernel
theorem dX3_clearTo_18 : decode cX3_clearTo 18 = .ok (.iconst 0, 1) := by decide +kernel
theorem dX3_clearTo_19 : decode cX3_clearTo 19 = .ok (.iastore, 1) := by decide +kernel
theorem dX3_clearTo_20 : decode cX3_clearTo 20 = .ok (.aload_n 0, 1) := by decide +kernel
theorem dX3_clearTo_21 : decode cX3_clearTo 21 = .ok (.getfield 15, 3) := by decide +kernel
theorem dX3_clearTo_24 : decode cX3_clearTo 24 = .ok (.iload_n 2, 1) := by decide +kernel
theorem dX3_clearTo_25 : decode cX3_clearTo 25 = .ok (.iconst 0, 1) := by decide +kernel
theorem dX3_clearTo_26 : decode cX3_clearTo 26 = .ok (.iastore, 1) := by decide +kernel
theorem dX3_clearTo_27 : decode cX3_clearTo 27 = .ok (.iinc 2 1, 3) := by decide +kernel
theorem dX3_clearTo_30 : decode cX3_clearTo 30 = .ok (.goto (-23), 3) := by decide +kernel
theorem dX3_clearTo_33 : decode cX3_clearTo 33 = .ok (.return_, 1) := by decide +kernel
theorem dX3_lineUp_0 : decode cX3_lineUp 0 = .ok (.iconst 0, 1) := by decide +kernel
theorem dX3_lineUp_1 : decode cX3_lineUp 1 = .ok (.istore_n 1, 1) := by decide +kernel
theorem dX3_lineUp_2 : decode cX3_lineUp 2 = .ok (.iload_n 1, 1) := by decide +kernel
theorem dX3_lineUp_3 : decode cX3_lineUp 3 = .ok (.aload_n 0, 1) := by decide +kernel
theorem dX3_lineUp_4 : decode cX3_lineUp 4 = .ok (.getfield 22, 3) := by decide +kernel
theorem dX3_lineUp_7 : decode cX3_lineUp 7 = .ok (.if_icmp .ge 20, 3) := by decide +kernel
theorem dX3_lineUp_10 : decode cX3_lineUp 10 = .ok (.aload_n 0, 1) := by decide +kernel
theorem dX3_lineUp_11 : decode cX3_lineUp 11 = .ok (.getfield 9, 3) := by decide +kernel
theorem dX3_lineUp_14 : decode cX3_lineUp 14 = .ok (.iload_n 1, 1) := by decide +kernel
theorem dX3_lineUp_15 : decode cX3_lineUp 15 = .ok (.iconst 1, 1) := by decide +kernel
theorem dX3_lineUp_16 : decode cX3_lineUp 16 = .ok (.iload_n 1, 1) := by decide +kernel
theorem dX3_lineUp_17 : decode cX3_lineUp 17 = .ok (.ishl, 1) := by decide +kernel
theorem dX3_lineUp_18 : decode cX3_lineUp 18 = .ok (.iconst 1, 1) := by decide +kernel
theorem dX3_lineUp_19 : decode cX3_lineUp 19 = .ok (.isub, 1) := by decide +kernel
theorem dX3_lineUp_20 : decode cX3_lineUp 20 = .ok (.iastore, 1) := by decide +kernel
theorem dX3_lineUp_21 : decode cX3_lineUp 21 = .ok (.iinc 1 1, 3) := by decide +kernel
theorem dX3_lineUp_24 : decode cX3_lineUp 24 = .ok (.goto (-22), 3) := by decide +kernel
theorem dX3_lineUp_27 : decode cX3_lineUp 27 = .ok (.return_, 1) := by decide +kernel
theorem dX3_standAs_0 : decode cX3_standAs 0 = .ok (.iconst 0, 1) := by decide +kernel
theorem dX3_standAs_1 : decode cX3_standAs 1 = .ok (.istore_n 2, 1) := by decide +kernel
theorem dX3_standAs_2 : decode cX3_standAs 2 = .ok (.iconst 0, 1) := by decide +kernel
theorem dX3_standAs_3 : decode cX3_standAs 3 = .ok (.istore_n 3, 1) := by decide +kernel
theorem dX3_standAs_4 : decode cX3_standAs 4 = .ok (.iload_n 3, 1) := by decide +kernel
theorem dX3_standAs_5 : decode cX3_standAs 5 = .ok (.aload_n 0, 1) := by decide +kernel
theorem dX3_standAs_6 : decode cX3_standAs 6 = .ok (.getfield 22, 3) := by decide +kernel
theorem dX3_standAs_9 : decode cX3_standAs 9 = .ok (.if_icmp .ge 38, 3) := by decide +kernel
theorem dX3_standAs_12 : decode cX3_standAs 12 = .ok (.aload_n 1, 1) := by decide +kernel
theorem dX3_standAs_13 : decode cX3_standAs 13 = .ok (.iload_n 3, 1) := by decide +kernel
theorem dX3_standAs_14 : decode cX3_standAs 14 = .ok (.iaload, 1) := by decide +kernel
theorem dX3_standAs_15 : decode cX3_standAs 15 = .ok (.istore 4, 2) := by decide +kernel
theorem dX3_standAs_17 : decode cX3_standAs 17 = .ok (.aload_n 0, 1) := by decide +kernel
theorem dX3_standAs_18 : decode cX3_standAs 18 = .ok (.iload 4, 2) := by decide +kernel
theorem dX3_standAs_20 : decode cX3_standAs 20 = .ok (.invokevirtual 26, 3) := by decide +kernel
theorem dX3_standAs_23 : decode cX3_standAs 23 = .ok (.ifCond .eq 18, 3) := by decide +kernel
theorem dX3_standAs_26 : decode cX3_standAs 26 = .ok (.aload_n 0, 1) := by decide +kernel
theorem dX3_standAs_27 : decode cX3_standAs 27 = .ok (.getfield 9, 3) := by decide +kernel
theorem dX3_standAs_30 : decode cX3_standAs 30 = .ok (.iload 4, 2) := by decide +kernel
theorem dX3_standAs_32 : decode cX3_standAs 32 = .ok (.iload_n 2, 1) := by decide +kernel
theorem dX3_standAs_33 : decode cX3_standAs 33 = .ok (.iastore, 1) := by decide +kernel
theorem dX3_standAs_34 : decode cX3_standAs 34 = .ok (.iload_n 2, 1) := by decide +kernel
theorem dX3_standAs_35 : decode cX3_standAs 35 = .ok (.iconst 1, 1) := by decide +kernel
theorem dX3_standAs_36 : decode cX3_standAs 36 = .ok (.iload 4, 2) := by decide +kernel
theorem dX3_standAs_38 : decode cX3_standAs 38 = .ok (.ishl, 1) := by decide +kernel
theorem dX3_standAs_39 : decode cX3_standAs 39 = .ok (.ior, 1) := by decide +kernel
theorem dX3_standAs_40 : decode cX3_standAs 40 = .ok (.istore_n 2, 1) := by decide +kernel
theorem dX3_standAs_41 : decode cX3_standAs 41 = .ok (.iinc 3 1, 3) := by decide +kernel
theorem dX3_standAs_44 : decode cX3_standAs 44 = .ok (.goto (-40), 3) := by decide +kernel
theorem dX3_standAs_47 : decode cX3_standAs 47 = .ok (.return_, 1) := by decide +kernel
theorem dX3_append_0 : decode cX3_append 0 = .ok (.aload_n 0, 1) := by decide +kernel
theorem dX3_append_1 : decode cX3_append 1 = .ok (.getfield 22, 3) := by decide +kernel
theorem dX3_append_4 : decode cX3_append 4 = .ok (.istore_n 2, 1) := by decide +kernel
theorem dX3_append_5 : decode cX3_append 5 = .ok (.aload_n 0, 1) := by decide +kernel
theorem dX3_append_6 : decode cX3_append 6 = .ok (.getfield 9, 3) := by decide +kernel
theorem dX3_append_9 : decode cX3_append 9 = .ok (.iload_n 2, 1) := by decide +kernel
theorem dX3_append_10 : decode cX3_append 10 = .ok (.iconst 0, 1) := by decide +kernel
theorem dX3_append_11 : decode cX3_append 11 = .ok (.iastore, 1) := by decide +kernel
theorem dX3_append_12 : decode cX3_append 12 = .ok (.aload_n 0, 1) := by decide +kernel
theorem dX3_append_13 : decode cX3_append 13 = .ok (.getfield 15, 3) := by decide +kernel
theorem dX3_append_16 : decode cX3_append 16 = .ok (.iload_n 2, 1) := by decide +kernel
theorem dX3_append_17 : decode cX3_append 17 = .ok (.iload_n 1, 1) := by decide +kernel
theorem dX3_append_18 : decode cX3_append 18 = .ok (.iastore, 1) := by decide +kernel
theorem dX3_append_19 : decode cX3_append 19 = .ok (.aload_n 0, 1) := by decide +kernel
theorem dX3_append_20 : decode cX3_append 20 = .ok (.dup, 1) := by decide +kernel
theorem dX3_append_21 : decode cX3_append 21 = .ok (.getfield 22, 3) := by decide +kernel
theorem dX3_append_24 : decode cX3_append 24 = .ok (.iconst 1, 1) := by decide +kernel
theorem dX3_append_25 : decode cX3_append 25 = .ok (.iadd, 1) := by decide +kernel
theorem dX3_append_26 : decode cX3_append 26 = .ok (.putfield 22, 3) := by decide +kernel
theorem dX3_append_29 : decode cX3_append 29 = .ok (.iload_n 2, 1) := by decide +kernel
theorem dX3_append_30 : decode cX3_append 30 = .ok (.ireturn, 1) := by decide +kernel
theorem dX3_squeezed_0 : decode cX3_squeezed 0 = .ok (.iconst 0, 1) := by decide +kernel
theorem dX3_squeezed_1 : decode cX3_squeezed 1 = .ok (.istore_n 2, 1) := by decide +kernel
theorem dX3_squeezed_2 : decode cX3_squeezed 2 = .ok (.iconst 0, 1) := by decide +kernel
theorem dX3_squeezed_3 : decode cX3_squeezed 3 = .ok (.istore_n 3, 1) := by decide +kernel
theorem dX3_squeezed_4 : decode cX3_squeezed 4 = .ok (.iconst 0, 1) := by decide +kernel
theorem dX3_squeezed_5 : decode cX3_squeezed 5 = .ok (.istore 4, 2) := by decide +kernel
theorem dX3_squeezed_7 : decode cX3_squeezed 7 = .ok (.iload 4, 2) := by decide +kernel
theorem dX3_squeezed_9 : decode cX3_squeezed 9 = .ok (.bipush 9, 2) := by decide +kernel
theorem dX3_squeezed_11 : decode cX3_squeezed 11 = .ok (.if_icmp .ge 36, 3) := by decide +kernel
theorem dX3_squeezed_14 : decode cX3_squeezed 14 = .ok (.iload_n 1, 1) := by decide +kernel
theorem dX3_squeezed_15 : decode cX3_squeezed 15 = .ok (.iload 4, 2) := by decide +kernel
theorem dX3_squeezed_17 : decode cX3_squeezed 17 = .ok (.invokestatic 30, 3) := by decide +kernel
theorem dX3_squeezed_20 : decode cX3_squeezed 20 = .ok (.ifCond .eq 21, 3) := by decide +kernel
theorem dX3_squeezed_23 : decode cX3_squeezed 23 = .ok (.iload_n 0, 1) := by decide +kernel
theorem dX3_squeezed_24 : decode cX3_squeezed 24 = .ok (.iload 4, 2) := by decide +kernel
theorem dX3_squeezed_26 : decode cX3_squeezed 26 = .ok (.invokestatic 30, 3) := by decide +kernel
theorem dX3_squeezed_29 : decode cX3_squeezed 29 = .ok (.ifCond .eq 9, 3) := by decide +kernel
theorem dX3_squeezed_32 : decode cX3_squeezed 32 = .ok (.iload_n 2, 1) := by decide +kernel
theorem dX3_squeezed_33 : decode cX3_squeezed 33 = .ok (.iconst 1, 1) := by decide +kernel
theorem dX3_squeezed_34 : decode cX3_squeezed 34 = .ok (.iload_n 3, 1) := by decide +kernel
theorem dX3_squeezed_35 : decode cX3_squeezed 35 = .ok (.ishl, 1) := by decide +kernel
theorem dX3_squeezed_36 : decode cX3_squeezed 36 = .ok (.ior, 1) := by decide +kernel
theorem dX3_squeezed_37 : decode cX3_squeezed 37 = .ok (.istore_n 2, 1) := by decide +kernel
theorem dX3_squeezed_38 : decode cX3_squeezed 38 = .ok (.iinc 3 1, 3) := by decide +kernel
theorem dX3_squeezed_41 : decode cX3_squeezed 41 = .ok (.iinc 4 1, 3) := by decide +kernel
theorem dX3_squeezed_44 : decode cX3_squeezed 44 = .ok (.goto (-37), 3) := by decide +kernel
theorem dX3_squeezed_47 : decode cX3_squeezed 47 = .ok (.iload_n 2, 1) := by decide +kernel
theorem dX3_squeezed_48 : decode cX3_squeezed 48 = .ok (.ireturn, 1) := by decide +kernel
theorem dX3_retain_0 : decode cX3_retain 0 = .ok (.iconst 0, 1) := by decide +kernel
theorem dX3_retain_1 : decode cX3_retain 1 = .ok (.istore_n 2, 1) := by decide +kernel
theorem dX3_retain_2 : decode cX3_retain 2 = .ok (.iconst 0, 1) := by decide +kernel
theorem dX3_retain_3 : decode cX3_retain 3 = .ok (.istore_n 3, 1) := by decide +kernel
theorem dX3_retain_4 : decode cX3_retain 4 = .ok (.iload_n 3, 1) := by decide +kernel
theorem dX3_retain_5 : decode cX3_retain 5 = .ok (.aload_n 0, 1) := by decide +kernel
theorem dX3_retain_6 : decode cX3_retain 6 = .ok (.getfield 22, 3) := by decide +kernel
theorem dX3_retain_9 : decode cX3_retain 9 = .ok (.if_icmp .ge 48, 3) := by decide +kernel
theorem dX3_retain_12 : decode cX3_retain 12 = .ok (.iload_n 1, 1) := by decide +kernel
theorem dX3_retain_13 : decode cX3_retain 13 = .ok (.iload_n 3, 1) := by decide +kernel
theorem dX3_retain_14 : decode cX3_retain 14 = .ok (.invokestatic 30, 3) := by decide +kernel
theorem dX3_retain_17 : decode cX3_retain 17 = .ok (.ifCond .eq 34, 3) := by decide +kernel
theorem dX3_retain_20 : decode cX3_retain 20 = .ok (.aload_n 0, 1) := by decide +kernel
theorem dX3_retain_21 : decode cX3_retain 21 = .ok (.getfield 9, 3) := by decide +kernel
theorem dX3_retain_24 : decode cX3_retain 24 = .ok (.iload_n 2, 1) := by decide +kernel
theorem dX3_retain_25 : decode cX3_retain 25 = .ok (.aload_n 0, 1) := by decide +kernel
theorem dX3_retain_26 : decode cX3_retain 26 = .ok (.getfield 9, 3) := by decide +kernel
theorem dX3_retain_29 : decode cX3_retain 29 = .ok (.iload_n 3, 1) := by decide +kernel
theorem dX3_retain_30 : decode cX3_retain 30 = .ok (.iaload, 1) := by decide +kernel
theorem dX3_retain_31 : decode cX3_retain 31 = .ok (.iload_n 1, 1) := by decide +kernel
theorem dX3_retain_32 : decode cX3_retain 32 = .ok (.invokestatic 34, 3) := by decide +kernel
theorem dX3_retain_35 : decode cX3_retain 35 = .ok (.iastore, 1) := by decide +kernel
theorem dX3_retain_36 : decode cX3_retain 36 = .ok (.aload_n 0, 1) := by decide +kernel
theorem dX3_retain_37 : decode cX3_retain 37 = .ok (.getfield 15, 3) := by decide +kernel
theorem dX3_retain_40 : decode cX3_retain 40 = .ok (.iload_n 2, 1) := by decide +kernel
theorem dX3_retain_41 : decode cX3_retain 41 = .ok (.aload_n 0, 1) := by decide +kernel
theorem dX3_retain_42 : decode cX3_retain 42 = .ok (.getfield 15, 3) := by decide +kernel
theorem dX3_retain_45 : decode cX3_retain 45 = .ok (.iload_n 3, 1) := by decide +kernel
theorem dX3_retain_46 : decode cX3_retain 46 = .ok (.iaload, 1) := by decide +kernel
theorem dX3_retain_47 : decode cX3_retain 47 = .ok (.iastore, 1) := by decide +kernel
theorem dX3_retain_48 : decode cX3_retain 48 = .ok (.iinc 2 1, 3) := by decide +kernel
theorem dX3_retain_51 : decode cX3_retain 51 = .ok (.iinc 3 1, 3) := by decide +kernel
theorem dX3_retain_54 : decode cX3_retain 54 = .ok (.goto (-50), 3) := by decide +kernel
theorem dX3_retain_57 : decode cX3_retain 57 = .ok (.aload_n 0, 1) := by decide +kernel
theorem dX3_retain_58 : decode cX3_retain 58 = .ok (.iload_n 2, 1) := by decide +kernel
theorem dX3_retain_59 : decode cX3_retain 59 = .ok (.putfield 22, 3) := by decide +kernel
theorem dX3_retain_62 : decode cX3_retain 62 = .ok (.return_, 1) := by decide +kernel
theorem dX3_pairCount_0 : decode cX3_pairCount 0 = .ok (.iconst 0, 1) := by decide +kernel
theorem dX3_pairCount_1 : decode cX3_pairCount 1 = .ok (.istore_n 1, 1) := by decide +kernel
theorem dX3_pairCount_2 : decode cX3_pairCount 2 = .ok (.iconst 0, 1) := by decide +kernel
theorem dX3_pairCount_3 : decode cX3_pairCount 3 = .ok (.istore_n 2, 1) := by decide +kernel
theorem dX3_pairCount_4 : decode cX3_pairCount 4 = .ok (.iload_n 2, 1) := by decide +kernel
theorem dX3_pairCount_5 : decode cX3_pairCount 5 = .ok (.aload_n 0, 1) := by decide +kernel
theorem dX3_pairCount_6 : decode cX3_pairCount 6 = .ok (.getfield 22, 3) := by decide +kernel
theorem dX3_pairCount_9 : decode cX3_pairCount 9 = .ok (.if_icmp .ge 21, 3) := by decide +kernel
theorem dX3_pairCount_12 : decode cX3_pairCount 12 = .ok (.iload_n 1, 1) := by decide +kernel
theorem dX3_pairCount_13 : decode cX3_pairCount 13 = .ok (.aload_n 0, 1) := by decide +kernel
theorem dX3_pairCount_14 : decode cX3_pairCount 14 = .ok (.getfield 9, 3) := by decide +kernel
theorem dX3_pairCount_17 : decode cX3_pairCount 17 = .ok (.iload_n 2, 1) := by decide +kernel
theorem dX3_pairCount_18 : decode cX3_pairCount 18 = .ok (.iaload, 1) := by decide +kernel
theorem dX3_pairCount_19 : decode cX3_pairCount 19 = .ok (.invokestatic 64, 3) := by decide +kernel
theorem dX3_pairCount_22 : decode cX3_pairCount 22 = .ok (.iadd, 1) := by decide +kernel
theorem dX3_pairCount_23 : decode cX3_pairCount 23 = .ok (.istore_n 1, 1) := by decide +kernel
theorem dX3_pairCount_24 : decode cX3_pairCount 24 = .ok (.iinc 2 1, 3) := by decide +kernel
theorem dX3_pairCount_27 : decode cX3_pairCount 27 = .ok (.goto (-23), 3) := by decide +kernel
theorem dX3_pairCount_30 : decode cX3_pairCount 30 = .ok (.iload_n 1, 1) := by decide +kernel
theorem dX3_pairCount_31 : decode cX3_pairCount 31 = .ok (.ireturn, 1) := by decide +kernel
theorem dX3_link_0 : decode cX3_link 0 = .ok (.iload_n 1, 1) := by decide +kernel
theorem dX3_link_1 : decode cX3_link 1 = .ok (.iload_n 2, 1) := by decide +kernel
theorem dX3_link_2 : decode cX3_link 2 = .ok (.if_icmp .eq 12, 3) := by decide +kernel
theorem dX3_link_5 : decode cX3_link 5 = .ok (.aload_n 0, 1) := by decide +kernel
theorem dX3_link_6 : decode cX3_link 6 = .ok (.iload_n 2, 1) := by decide +kernel
theorem dX3_link_7 : decode cX3_link 7 = .ok (.iload_n 1, 1) := by decide +kernel
theorem dX3_link_8 : decode cX3_link 8 = .ok (.invokevirtual 38, 3) := by decide +kernel
theorem dX3_link_11 : decode cX3_link 11 = .ok (.ifCond .eq 6, 3) := by decide +kernel
theorem dX3_link_14 : decode cX3_link 14 = .ok (.bipush (-9), 2) := by decide +kernel
theorem dX3_link_16 : decode cX3_link 16 = .ok (.ireturn, 1) := by decide +kernel
theorem dX3_link_17 : decode cX3_link 17 = .ok (.aload_n 0, 1) := by decide +kernel
theorem dX3_link_18 : decode cX3_link 18 = .ok (.invokevirtual 41, 3) := by decide +kernel
theorem dX3_link_21 : decode cX3_link 21 = .ok (.istore_n 3, 1) := by decide +kernel
theorem dX3_link_22 : decode cX3_link 22 = .ok (.aload_n 0, 1) := by decide +kernel
theorem dX3_link_23 : decode cX3_link 23 = .ok (.getfield 9, 3) := by decide +kernel
theorem dX3_link_26 : decode cX3_link 26 = .ok (.iload_n 1, 1) := by decide +kernel
theorem dX3_link_27 : decode cX3_link 27 = .ok (.iaload, 1) := by decide +kernel
theorem dX3_link_28 : decode cX3_link 28 = .ok (.iconst 1, 1) := by decide +kernel
theorem dX3_link_29 : decode cX3_link 29 = .ok (.iload_n 1, 1) := by decide +kernel
theorem dX3_link_30 : decode cX3_link 30 = .ok (.ishl, 1) := by decide +kernel
theorem dX3_link_31 : decode cX3_link 31 = .ok (.ior, 1) := by decide +kernel
theorem dX3_link_32 : decode cX3_link 32 = .ok (.istore 4, 2) := by decide +kernel
theorem dX3_link_34 : decode cX3_link 34 = .ok (.iconst 0, 1) := by decide +kernel
theorem dX3_link_35 : decode cX3_link 35 = .ok (.istore 5, 2) := by decide +kernel
theorem dX3_link_37 : decode cX3_link 37 = .ok (.iload 5, 2) := by decide +kernel
theorem dX3_link_39 : decode cX3_link 39 = .ok (.aload_n 0, 1) := by decide +kernel
theorem dX3_link_40 : decode cX3_link 40 = .ok (.getfield 22, 3) := by decide +kernel
theorem dX3_link_43 : decode cX3_link 43 = .ok (.if_icmp .ge 37, 3) := by decide +kernel
theorem dX3_link_46 : decode cX3_link 46 = .ok (.iload 5, 2) := by decide +kernel
theorem dX3_link_48 : decode cX3_link 48 = .ok (.iload_n 2, 1) := by decide +kernel
theorem dX3_link_49 : decode cX3_link 49 = .ok (.if_icmp .eq 13, 3) := by decide +kernel
theorem dX3_link_52 : decode cX3_link 52 = .ok (.aload_n 0, 1) := by decide +kernel
theorem dX3_link_53 : decode cX3_link 53 = .ok (.iload_n 2, 1) := by decide +kernel
theorem dX3_link_54 : decode cX3_link 54 = .ok (.iload 5, 2) := by decide +kernel
theorem dX3_link_56 : decode cX3_link 56 = .ok (.invokevirtual 38, 3) := by decide +kernel
theorem dX3_link_59 : decode cX3_link 59 = .ok (.ifCond .eq 15, 3) := by decide +kernel
theorem dX3_link_62 : decode cX3_link 62 = .ok (.aload_n 0, 1) := by decide +kernel
theorem dX3_link_63 : decode cX3_link 63 = .ok (.getfield 9, 3) := by decide +kernel
theorem dX3_link_66 : decode cX3_link 66 = .ok (.iload 5, 2) := by decide +kernel
theorem dX3_link_68 : decode cX3_link 68 = .ok (.dup2, 1) := by decide +kernel
theorem dX3_link_69 : decode cX3_link 69 = .ok (.iaload, 1) := by decide +kernel
theorem dX3_link_70 : decode cX3_link 70 = .ok (.iload 4, 2) := by decide +kernel
theorem dX3_link_72 : decode cX3_link 72 = .ok (.ior, 1) := by decide +kernel
theorem dX3_link_73 : decode cX3_link 73 = .ok (.iastore, 1) := by decide +kernel
theorem dX3_link_74 : decode cX3_link 74 = .ok (.iinc 5 1, 3) := by decide +kernel
theorem dX3_link_77 : decode cX3_link 77 = .ok (.goto (-40), 3) := by decide +kernel
theorem dX3_link_80 : decode cX3_link 80 = .ok (.aload_n 0, 1) := by decide +kernel
theorem dX3_link_81 : decode cX3_link 81 = .ok (.invokevirtual 41, 3) := by decide +kernel
theorem dX3_link_84 : decode cX3_link 84 = .ok (.iload_n 3, 1) := by decide +kernel
theorem dX3_link_85 : decode cX3_link 85 = .ok (.isub, 1) := by decide +kernel
theorem dX3_link_86 : decode cX3_link 86 = .ok (.ireturn, 1) := by decide +kernel
theorem dX3_cut_0 : decode cX3_cut 0 = .ok (.aload_n 0, 1) := by decide +kernel
theorem dX3_cut_1 : decode cX3_cut 1 = .ok (.getfield 9, 3) := by decide +kernel
theorem dX3_cut_4 : decode cX3_cut 4 = .ok (.iload_n 2, 1) := by decide +kernel
theorem dX3_cut_5 : decode cX3_cut 5 = .ok (.dup2, 1) := by decide +kernel
theorem dX3_cut_6 : decode cX3_cut 6 = .ok (.iaload, 1) := by decide +kernel
theorem dX3_cut_7 : decode cX3_cut 7 = .ok (.iconst 1, 1) := by decide +kernel
theorem dX3_cut_8 : decode cX3_cut 8 = .ok (.iload_n 1, 1) := by decide +kernel
theorem dX3_cut_9 : decode cX3_cut 9 = .ok (.ishl, 1) := by decide +kernel
theorem dX3_cut_10 : decode cX3_cut 10 = .ok (.iconst (-1), 1) := by decide +kernel
theorem dX3_cut_11 : decode cX3_cut 11 = .ok (.ixor, 1) := by decide +kernel
theorem dX3_cut_12 : decode cX3_cut 12 = .ok (.iand, 1) := by decide +kernel
theorem dX3_cut_13 : decode cX3_cut 13 = .ok (.iastore, 1) := by decide +kernel
theorem dX3_cut_14 : decode cX3_cut 14 = .ok (.return_, 1) := by decide +kernel
theorem dX3_become_0 : decode cX3_become 0 = .ok (.aload_n 0, 1) := by decide +kernel
theorem dX3_become_1 : decode cX3_become 1 = .ok (.aload_n 1, 1) := by decide +kernel
theorem dX3_become_2 : decode cX3_become 2 = .ok (.getfield 22, 3) := by decide +kernel
theorem dX3_become_5 : decode cX3_become 5 = .ok (.putfield 22, 3) := by decide +kernel
theorem dX3_become_8 : decode cX3_become 8 = .ok (.iconst 0, 1) := by decide +kernel
theorem dX3_become_9 : decode cX3_become 9 = .ok (.istore_n 2, 1) := by decide +kernel
theorem dX3_become_10 : decode cX3_become 10 = .ok (.iload_n 2, 1) := by decide +kernel
theorem dX3_become_11 : decode cX3_become 11 = .ok (.bipush 9, 2) := by decide +kernel
theorem dX3_become_13 : decode cX3_become 13 = .ok (.if_icmp .ge 33, 3) := by decide +kernel
theorem dX3_become_16 : decode cX3_become 16 = .ok (.aload_n 0, 1) := by decide +kernel
theorem dX3_become_17 : decode cX3_become 17 = .ok (.getfield 9, 3) := by decide +kernel
theorem dX3_become_20 : decode cX3_become 20 = .ok (.iload_n 2, 1) := by decide +kernel
theorem dX3_become_21 : decode cX3_become 21 = .ok (.aload_n 1, 1) := by decide +kernel
theorem dX3_become_22 : decode cX3_become 22 = .ok (.getfield 9, 3) := by decide +kernel
theorem dX3_become_25 : decode cX3_become 25 = .ok (.iload_n 2, 1) := by decide +kernel
theorem dX3_become_26 : decode cX3_become 26 = .ok (.iaload, 1) := by decide +kernel
theorem dX3_become_27 : decode cX3_become 27 = .ok (.iastore, 1) := by decide +kernel
theorem dX3_become_28 : decode cX3_become 28 = .ok (.aload_n 0, 1) := by decide +kernel
theorem dX3_become_29 : decode cX3_become 29 = .ok (.getfield 15, 3) := by decide +kernel
theorem dX3_become_32 : decode cX3_become 32 = .ok (.iload_n 2, 1) := by decide +kernel
theorem dX3_become_33 : decode cX3_become 33 = .ok (.aload_n 1, 1) := by decide +kernel
theorem dX3_become_34 : decode cX3_become 34 = .ok (.getfield 15, 3) := by decide +kernel
theorem dX3_become_37 : decode cX3_become 37 = .ok (.iload_n 2, 1) := by decide +kernel
theorem dX3_become_38 : decode cX3_become 38 = .ok (.iaload, 1) := by decide +kernel
theorem dX3_become_39 : decode cX3_become 39 = .ok (.iastore, 1) := by decide +kernel
theorem dX3_become_40 : decode cX3_become 40 = .ok (.iinc 2 1, 3) := by decide +kernel
theorem dX3_become_43 : decode cX3_become 43 = .ok (.goto (-33), 3) := by decide +kernel
theorem dX3_become_46 : decode cX3_become 46 = .ok (.return_, 1) := by decide +kernel
theorem dX3_aboveOf_0 : decode cX3_aboveOf 0 = .ok (.iconst 0, 1) := by decide +kernel
theorem dX3_aboveOf_1 : decode cX3_aboveOf 1 = .ok (.istore_n 2, 1) := by decide +kernel
theorem dX3_aboveOf_2 : decode cX3_aboveOf 2 = .ok (.iconst 0, 1) := by decide +kernel
theorem dX3_aboveOf_3 : decode cX3_aboveOf 3 = .ok (.istore_n 3, 1) := by decide +kernel
theorem dX3_aboveOf_4 : decode cX3_aboveOf 4 = .ok (.iload_n 3, 1) := by decide +kernel
theorem dX3_aboveOf_5 : decode cX3_aboveOf 5 = .ok (.aload_n 0, 1) := by decide +kernel
theorem dX3_aboveOf_6 : decode cX3_aboveOf 6 = .ok (.getfield 22, 3) := by decide +kernel
theorem dX3_aboveOf_9 : decode cX3_aboveOf 9 = .ok (.if_icmp .ge 24, 3) := by decide +kernel
theorem dX3_aboveOf_12 : decode cX3_aboveOf 12 = .ok (.aload_n 0, 1) := by decide +kernel
theorem dX3_aboveOf_13 : decode cX3_aboveOf 13 = .ok (.iload_n 1, 1) := by decide +kernel
theorem dX3_aboveOf_14 : decode cX3_aboveOf 14 = .ok (.iload_n 3, 1) := by decide +kernel
theorem dX3_aboveOf_15 : decode cX3_aboveOf 15 = .ok (.invokevirtual 38, 3) := by decide +kernel
theorem dX3_aboveOf_18 : decode cX3_aboveOf 18 = .ok (.ifCond .eq 9, 3) := by decide +kernel
theorem dX3_aboveOf_21 : decode cX3_aboveOf 21 = .ok (.iload_n 2, 1) := by decide +kernel
theorem dX3_aboveOf_22 : decode cX3_aboveOf 22 = .ok (.iconst 1, 1) := by decide +kernel
theorem dX3_aboveOf_23 : decode cX3_aboveOf 23 = .ok (.iload_n 3, 1) := by decide +kernel
theorem dX3_aboveOf_24 : decode cX3_aboveOf 24 = .ok (.ishl, 1) := by decide +kernel
theorem dX3_aboveOf_25 : decode cX3_aboveOf 25 = .ok (.ior, 1) := by decide +kernel
theorem dX3_aboveOf_26 : decode cX3_aboveOf 26 = .ok (.istore_n 2, 1) := by decide +kernel
theorem dX3_aboveOf_27 : decode cX3_aboveOf 27 = .ok (.iinc 3 1, 3) := by decide +kernel
theorem dX3_aboveOf_30 : decode cX3_aboveOf 30 = .ok (.goto (-26), 3) := by decide +kernel
theorem dX3_aboveOf_33 : decode cX3_aboveOf 33 = .ok (.iload_n 2, 1) := by decide +kernel
theorem dX3_aboveOf_34 : decode cX3_aboveOf 34 = .ok (.ireturn, 1) := by decide +kernel
theorem dX3_becomeTurned_0 : decode cX3_becomeTurned 0 = .ok (.aload_n 0, 1) := by decide +kernel
theorem dX3_becomeTurned_1 : decode cX3_becomeTurned 1 = .ok (.aload_n 1, 1) := by decide +kernel
theorem dX3_becomeTurned_2 : decode cX3_becomeTurned 2 = .ok (.getfield 22, 3) := by decide +kernel
theorem dX3_becomeTurned_5 : decode cX3_becomeTurned 5 = .ok (.invokevirtual 44, 3) := by decide +kernel
theorem dX3_becomeTurned_8 : decode cX3_becomeTurned 8 = .ok (.iconst 0, 1) := by decide +kernel
theorem dX3_becomeTurned_9 : decode cX3_becomeTurned 9 = .ok (.istore_n 2, 1) := by decide +kernel
theorem dX3_becomeTurned_10 : decode cX3_becomeTurned 10 = .ok (.iload_n 2, 1) := by decide +kernel
theorem dX3_becomeTurned_11 : decode cX3_becomeTurned 11 = .ok (.aload_n 0, 1) := by decide +kernel
theorem dX3_becomeTurned_12 : decode cX3_becomeTurned 12 = .ok (.getfield 22, 3) := by decide +kernel
theorem dX3_becomeTurned_15 : decode cX3_becomeTurned 15 = .ok (.if_icmp .ge 32, 3) := by decide +kernel
theorem dX3_becomeTurned_18 : decode cX3_becomeTurned 18 = .ok (.aload_n 0, 1) := by decide +kernel
theorem dX3_becomeTurned_19 : decode cX3_becomeTurned 19 = .ok (.getfield 9, 3) := by decide +kernel
theorem dX3_becomeTurned_22 : decode cX3_becomeTurned 22 = .ok (.iload_n 2, 1) := by decide +kernel
theorem dX3_becomeTurned_23 : decode cX3_becomeTurned 23 = .ok (.aload_n 1, 1) := by decide +kernel
theorem dX3_becomeTurned_24 : decode cX3_becomeTurned 24 = .ok (.iload_n 2, 1) := by decide +kernel
theorem dX3_becomeTurned_25 : decode cX3_becomeTurned 25 = .ok (.invokevirtual 48, 3) := by decide +kernel
theorem dX3_becomeTurned_28 : decode cX3_becomeTurned 28 = .ok (.iastore, 1) := by decide +kernel
theorem dX3_becomeTurned_29 : decode cX3_becomeTurned 29 = .ok (.aload_n 0, 1) := by decide +kernel
theorem dX3_becomeTurned_30 : decode cX3_becomeTurned 30 = .ok (.getfield 15, 3) := by decide +kernel
theorem dX3_becomeTurned_33 : decode cX3_becomeTurned 33 = .ok (.iload_n 2, 1) := by decide +kernel
theorem dX3_becomeTurned_34 : decode cX3_becomeTurned 34 = .ok (.aload_n 1, 1) := by decide +kernel
theorem dX3_becomeTurned_35 : decode cX3_becomeTurned 35 = .ok (.getfield 15, 3) := by decide +kernel
theorem dX3_becomeTurned_38 : decode cX3_becomeTurned 38 = .ok (.iload_n 2, 1) := by decide +kernel
theorem dX3_becomeTurned_39 : decode cX3_becomeTurned 39 = .ok (.iaload, 1) := by decide +kernel
theorem dX3_becomeTurned_40 : decode cX3_becomeTurned 40 = .ok (.iastore, 1) := by decide +kernel
theorem dX3_becomeTurned_41 : decode cX3_becomeTurned 41 = .ok (.iinc 2 1, 3) := by decide +kernel
theorem dX3_becomeTurned_44 : decode cX3_becomeTurned 44 = .ok (.goto (-34), 3) := by decide +kernel
theorem dX3_becomeTurned_47 : decode cX3_becomeTurned 47 = .ok (.return_, 1) := by decide +kernel
theorem dX3_becomeJoined_0 : decode cX3_becomeJoined 0 = .ok (.aload_n 1, 1) := by decide +kernel
theorem dX3_becomeJoined_1 : decode cX3_becomeJoined 1 = .ok (.getfield 22, 3) := by decide +kernel
theorem dX3_becomeJoined_4 : decode cX3_becomeJoined 4 = .ok (.istore 4, 2) := by decide +kernel
theorem dX3_becomeJoined_6 : decode cX3_becomeJoined 6 = .ok (.aload_n 0, 1) := by decide +kernel
theorem dX3_becomeJoined_7 : decode cX3_becomeJoined 7 = .ok (.bipush 9, 2) := by decide +kernel
theorem dX3_becomeJoined_9 : decode cX3_becomeJoined 9 = .ok (.iload 4, 2) := by decide +kernel
theorem dX3_becomeJoined_11 : decode cX3_becomeJoined 11 = .ok (.aload_n 2, 1) := by decide +kernel
theorem dX3_becomeJoined_12 : decode cX3_becomeJoined 12 = .ok (.getfield 22, 3) := by decide +kernel
theorem dX3_becomeJoined_15 : decode cX3_becomeJoined 15 = .ok (.iadd, 1) := by decide +kernel
theorem dX3_becomeJoined_16 : decode cX3_becomeJoined 16 = .ok (.invokestatic 52, 3) := by decide +kernel
theorem dX3_becomeJoined_19 : decode cX3_becomeJoined 19 = .ok (.invokevirtual 44, 3) := by decide +kernel
theorem dX3_becomeJoined_22 : decode cX3_becomeJoined 22 = .ok (.iconst 0, 1) := by decide +kernel
theorem dX3_becomeJoined_23 : decode cX3_becomeJoined 23 = .ok (.istore 5, 2) := by decide +kernel
theorem dX3_becomeJoined_25 : decode cX3_becomeJoined 25 = .ok (.iload 5, 2) := by decide +kernel
theorem dX3_becomeJoined_27 : decode cX3_becomeJoined 27 = .ok (.iload 4, 2) := by decide +kernel
theorem dX3_becomeJoined_29 : decode cX3_becomeJoined 29 = .ok (.if_icmp .ge 37, 3) := by decide +kernel
theorem dX3_becomeJoined_32 : decode cX3_becomeJoined 32 = .ok (.aload_n 0, 1) := by decide +kernel
theorem dX3_becomeJoined_33 : decode cX3_becomeJoined 33 = .ok (.getfield 9, 3) := by decide +kernel
theorem dX3_becomeJoined_36 : decode cX3_becomeJoined 36 = .ok (.iload 5, 2) := by decide +kernel
theorem dX3_becomeJoined_38 : decode cX3_becomeJoined 38 = .ok (.aload_n 1, 1) := by decide +kernel
theorem dX3_becomeJoined_39 : decode cX3_becomeJoined 39 = .ok (.getfield 9, 3) := by decide +kernel
theorem dX3_becomeJoined_42 : decode cX3_becomeJoined 42 = .ok (.iload 5, 2) := by decide +kernel
theorem dX3_becomeJoined_44 : decode cX3_becomeJoined 44 = .ok (.iaload, 1) := by decide +kernel
theorem dX3_becomeJoined_45 : decode cX3_becomeJoined 45 = .ok (.iastore, 1) := by decide +kernel
theorem dX3_becomeJoined_46 : decode cX3_becomeJoined 46 = .ok (.aload_n 0, 1) := by decide +kernel
theorem dX3_becomeJoined_47 : decode cX3_becomeJoined 47 = .ok (.getfield 15, 3) := by decide +kernel
theorem dX3_becomeJoined_50 : decode cX3_becomeJoined 50 = .ok (.iload 5, 2) := by decide +kernel
theorem dX3_becomeJoined_52 : decode cX3_becomeJoined 52 = .ok (.aload_n 1, 1) := by decide +kernel
theorem dX3_becomeJoined_53 : decode cX3_becomeJoined 53 = .ok (.getfield 15, 3) := by decide +kernel
theorem dX3_becomeJoined_56 : decode cX3_becomeJoined 56 = .ok (.iload 5, 2) := by decide +kernel
theorem dX3_becomeJoined_58 : decode cX3_becomeJoined 58 = .ok (.iaload, 1) := by decide +kernel
theorem dX3_becomeJoined_59 : decode cX3_becomeJoined 59 = .ok (.iastore, 1) := by decide +kernel
theorem dX3_becomeJoined_60 : decode cX3_becomeJoined 60 = .ok (.iinc 5 1, 3) := by decide +kernel
theorem dX3_becomeJoined_63 : decode cX3_becomeJoined 63 = .ok (.goto (-38), 3) := by decide +kernel
theorem dX3_becomeJoined_66 : decode cX3_becomeJoined 66 = .ok (.iload 4, 2) := by decide +kernel
theorem dX3_becomeJoined_68 : decode cX3_becomeJoined 68 = .ok (.istore 5, 2) := by decide +kernel
theorem dX3_becomeJoined_70 : decode cX3_becomeJoined 70 = .ok (.iload 5, 2) := by decide +kernel
theorem dX3_becomeJoined_72 : decode cX3_becomeJoined 72 = .ok (.aload_n 0, 1) := by decide +kernel
theorem dX3_becomeJoined_73 : decode cX3_becomeJoined 73 = .ok (.getfield 22, 3) := by decide +kernel
theorem dX3_becomeJoined_76 : decode cX3_becomeJoined 76 = .ok (.if_icmp .ge 59, 3) := by decide +kernel
theorem dX3_becomeJoined_79 : decode cX3_becomeJoined 79 = .ok (.aload_n 0, 1) := by decide +kernel
theorem dX3_becomeJoined_80 : decode cX3_becomeJoined 80 = .ok (.getfield 9, 3) := by decide +kernel
theorem dX3_becomeJoined_83 : decode cX3_becomeJoined 83 = .ok (.iload 5, 2) := by decide +kernel
theorem dX3_becomeJoined_85 : decode cX3_becomeJoined 85 = .ok (.aload_n 2, 1) := by decide +kernel
theorem dX3_becomeJoined_86 : decode cX3_becomeJoined 86 = .ok (.getfield 9, 3) := by decide +kernel
theorem dX3_becomeJoined_89 : decode cX3_becomeJoined 89 = .ok (.iload 5, 2) := by decide +kernel
theorem dX3_becomeJoined_91 : decode cX3_becomeJoined 91 = .ok (.iload 4, 2) := by decide +kernel
theorem dX3_becomeJoined_93 : decode cX3_becomeJoined 93 = .ok (.isub, 1) := by decide +kernel
theorem dX3_becomeJoined_94 : decode cX3_becomeJoined 94 = .ok (.iaload, 1) := by decide +kernel
theorem dX3_becomeJoined_95 : decode cX3_becomeJoined 95 = .ok (.iload 4, 2) := by decide +kernel
theorem dX3_becomeJoined_97 : decode cX3_becomeJoined 97 = .ok (.ishl, 1) := by decide +kernel
theorem dX3_becomeJoined_98 : decode cX3_becomeJoined 98 = .ok (.iload_n 3, 1) := by decide +kernel
theorem dX3_becomeJoined_99 : decode cX3_becomeJoined 99 = .ok (.ifCond .eq 10, 3) := by decide +kernel
theorem dX3_becomeJoined_102 : decode cX3_becomeJoined 102 = .ok (.aload_n 1, 1) := by decide +kernel
theorem dX3_becomeJoined_103 : decode cX3_becomeJoined 103 = .ok (.invokevirtual 57, 3) := by decide +kernel
theorem dX3_becomeJoined_106 : decode cX3_becomeJoined 106 = .ok (.goto 4, 3) := by decide +kernel
theorem dX3_becomeJoined_109 : decode cX3_becomeJoined 109 = .ok (.iconst 0, 1) := by decide +kernel
theorem dX3_becomeJoined_110 : decode cX3_becomeJoined 110 = .ok (.ior, 1) := by decide +kernel
theorem dX3_becomeJoined_111 : decode cX3_becomeJoined 111 = .ok (.iastore, 1) := by decide +kernel
theorem dX3_becomeJoined_112 : decode cX3_becomeJoined 112 = .ok (.aload_n 0, 1) := by decide +kernel
theorem dX3_becomeJoined_113 : decode cX3_becomeJoined 113 = .ok (.getfield 15, 3) := by decide +kernel
theorem dX3_becomeJoined_116 : decode cX3_becomeJoined 116 = .ok (.iload 5, 2) := by decide +kernel
theorem dX3_becomeJoined_118 : decode cX3_becomeJoined 118 = .ok (.aload_n 2, 1) := by decide +kernel
theorem dX3_becomeJoined_119 : decode cX3_becomeJoined 119 = .ok (.getfield 15, 3) := by decide +kernel
theorem dX3_becomeJoined_122 : decode cX3_becomeJoined 122 = .ok (.iload 5, 2) := by decide +kernel
theorem dX3_becomeJoined_124 : decode cX3_becomeJoined 124 = .ok (.iload 4, 2) := by decide +kernel
theorem dX3_becomeJoined_126 : decode cX3_becomeJoined 126 = .ok (.isub, 1) := by decide +kernel
theorem dX3_becomeJoined_127 : decode cX3_becomeJoined 127 = .ok (.iaload, 1) := by decide +kernel
theorem dX3_becomeJoined_128 : decode cX3_becomeJoined 128 = .ok (.iastore, 1) := by decide +kernel
theorem dX3_becomeJoined_129 : decode cX3_becomeJoined 129 = .ok (.iinc 5 1, 3) := by decide +kernel
theorem dX3_becomeJoined_132 : decode cX3_becomeJoined 132 = .ok (.goto (-62), 3) := by decide +kernel
theorem dX3_becomeJoined_135 : decode cX3_becomeJoined 135 = .ok (.return_, 1) := by decide +kernel
theorem dX3_becomeCommon_0 : decode cX3_becomeCommon 0 = .ok (.aload_n 0, 1) := by decide +kernel
theorem dX3_becomeCommon_1 : decode cX3_becomeCommon 1 = .ok (.aload_n 1, 1) := by decide +kernel
theorem dX3_becomeCommon_2 : decode cX3_becomeCommon 2 = .ok (.invokevirtual 60, 3) := by decide +kernel
theorem dX3_becomeCommon_5 : decode cX3_becomeCommon 5 = .ok (.iconst 0, 1) := by decide +kernel
theorem dX3_becomeCommon_6 : decode cX3_becomeCommon 6 = .ok (.istore_n 3, 1) := by decide +kernel
theorem dX3_becomeCommon_7 : decode cX3_becomeCommon 7 = .ok (.iload_n 3, 1) := by decide +kernel
theorem dX3_becomeCommon_8 : decode cX3_becomeCommon 8 = .ok (.aload_n 0, 1) := by decide +kernel
theorem dX3_becomeCommon_9 : decode cX3_becomeCommon 9 = .ok (.getfield 22, 3) := by decide +kernel
theorem dX3_becomeCommon_12 : decode cX3_becomeCommon 12 = .ok (.if_icmp .ge 24, 3) := by decide +kernel
theorem dX3_becomeCommon_15 : decode cX3_becomeCommon 15 = .ok (.aload_n 0, 1) := by decide +kernel
theorem dX3_becomeCommon_16 : decode cX3_becomeCommon 16 = .ok (.getfield 9, 3) := by decide +kernel
theorem dX3_becomeCommon_19 : decode cX3_becomeCommon 19 = .ok (.iload_n 3, 1) := by decide +kernel
theorem dX3_becomeCommon_20 : decode cX3_becomeCommon 20 = .ok (.dup2, 1) := by decide +kernel
theorem dX3_becomeCommon_21 : decode cX3_becomeCommon 21 = .ok (.iaload, 1) := by decide +kernel
theorem dX3_becomeCommon_22 : decode cX3_becomeCommon 22 = .ok (.aload_n 2, 1) := by decide +kernel
theorem dX3_becomeCommon_23 : decode cX3_becomeCommon 23 = .ok (.getfield 9, 3) := by decide +kernel
theorem dX3_becomeCommon_26 : decode cX3_becomeCommon 26 = .ok (.iload_n 3, 1) := by decide +kernel
theorem dX3_becomeCommon_27 : decode cX3_becomeCommon 27 = .ok (.iaload, 1) := by decide +kernel
theorem dX3_becomeCommon_28 : decode cX3_becomeCommon 28 = .ok (.iand, 1) := by decide +kernel
theorem dX3_becomeCommon_29 : decode cX3_becomeCommon 29 = .ok (.iastore, 1) := by decide +kernel
theorem dX3_becomeCommon_30 : decode cX3_becomeCommon 30 = .ok (.iinc 3 1, 3) := by decide +kernel
theorem dX3_becomeCommon_33 : decode cX3_becomeCommon 33 = .ok (.goto (-26), 3) := by decide +kernel
theorem dX3_becomeCommon_36 : decode cX3_becomeCommon 36 = .ok (.return_, 1) := by decide +kernel
theorem dX3_isNextBelow_0 : decode cX3_isNextBelow 0 = .ok (.aload_n 0, 1) := by decide +kernel
theorem dX3_isNextBelow_1 : decode cX3_isNextBelow 1 = .ok (.iload_n 1, 1) := by decide +kernel
theorem dX3_isNextBelow_2 : decode cX3_isNextBelow 2 = .ok (.iload_n 2, 1) := by decide +kernel
theorem dX3_isNextBelow_3 : decode cX3_isNextBelow 3 = .ok (.invokevirtual 38, 3) := by decide +kernel
theorem dX3_isNextBelow_6 : decode cX3_isNextBelow 6 = .ok (.ifCond .eq 22, 3) := by decide +kernel
theorem dX3_isNextBelow_9 : decode cX3_isNextBelow 9 = .ok (.aload_n 0, 1) := by decide +kernel
theorem dX3_isNextBelow_10 : decode cX3_isNextBelow 10 = .ok (.iload_n 1, 1) := by decide +kernel
theorem dX3_isNextBelow_11 : decode cX3_isNextBelow 11 = .ok (.invokevirtual 48, 3) := by decide +kernel
theorem dX3_isNextBelow_14 : decode cX3_isNextBelow 14 = .ok (.aload_n 0, 1) := by decide +kernel
theorem dX3_isNextBelow_15 : decode cX3_isNextBelow 15 = .ok (.getfield 9, 3) := by decide +kernel
theorem dX3_isNextBelow_18 : decode cX3_isNextBelow 18 = .ok (.iload_n 2, 1) := by decide +kernel
theorem dX3_isNextBelow_19 : decode cX3_isNextBelow 19 = .ok (.iaload, 1) := by decide +kernel
theorem dX3_isNextBelow_20 : decode cX3_isNextBelow 20 = .ok (.iand, 1) := by decide +kernel
theorem dX3_isNextBelow_21 : decode cX3_isNextBelow 21 = .ok (.ifCond .ne 7, 3) := by decide +kernel
theorem dX3_isNextBelow_24 : decode cX3_isNextBelow 24 = .ok (.iconst 1, 1) := by decide +kernel
theorem dX3_isNextBelow_25 : decode cX3_isNextBelow 25 = .ok (.goto 4, 3) := by decide +kernel
theorem dX3_isNextBelow_28 : decode cX3_isNextBelow 28 = .ok (.iconst 0, 1) := by decide +kernel
theorem dX3_isNextBelow_29 : decode cX3_isNextBelow 29 = .ok (.ireturn, 1) := by decide +kernel
theorem dX3_allBelow_0 : decode cX3_allBelow 0 = .ok (.iconst 0, 1) := by decide +kernel
theorem dX3_allBelow_1 : decode cX3_allBelow 1 = .ok (.istore_n 2, 1) := by decide +kernel
theorem dX3_allBelow_2 : decode cX3_allBelow 2 = .ok (.iconst 0, 1) := by decide +kernel
theorem dX3_allBelow_3 : decode cX3_allBelow 3 = .ok (.istore_n 3, 1) := by decide +kernel
theorem dX3_allBelow_4 : decode cX3_allBelow 4 = .ok (.iload_n 3, 1) := by decide +kernel
theorem dX3_allBelow_5 : decode cX3_allBelow 5 = .ok (.aload_n 0, 1) := by decide +kernel
theorem dX3_allBelow_6 : decode cX3_allBelow 6 = .ok (.getfield 22, 3) := by decide +kernel
theorem dX3_allBelow_9 : decode cX3_allBelow 9 = .ok (.if_icmp .ge 26, 3) := by decide +kernel
theorem dX3_allBelow_12 : decode cX3_allBelow 12 = .ok (.iload_n 1, 1) := by decide +kernel
theorem dX3_allBelow_13 : decode cX3_allBelow 13 = .ok (.iload_n 3, 1) := by decide +kernel
theorem dX3_allBelow_14 : decode cX3_allBelow 14 = .ok (.invokestatic 30, 3) := by decide +kernel
theorem dX3_allBelow_17 : decode cX3_allBelow 17 = .ok (.ifCond .eq 12, 3) := by decide +kernel
theorem dX3_allBelow_20 : decode cX3_allBelow 20 = .ok (.iload_n 2, 1) := by decide +kernel
theorem dX3_allBelow_21 : decode cX3_allBelow 21 = .ok (.aload_n 0, 1) := by decide +kernel
theorem dX3_allBelow_22 : decode cX3_allBelow 22 = .ok (.getfield 9, 3) := by decide +kernel
theorem dX3_allBelow_25 : decode cX3_allBelow 25 = .ok (.iload_n 3, 1) := by decide +kernel
theorem dX3_allBelow_26 : decode cX3_allBelow 26 = .ok (.iaload, 1) := by decide +kernel
theorem dX3_allBelow_27 : decode cX3_allBelow 27 = .ok (.ior, 1) := by decide +kernel
theorem dX3_allBelow_28 : decode cX3_allBelow 28 = .ok (.istore_n 2, 1) := by decide +kernel
theorem dX3_allBelow_29 : decode cX3_allBelow 29 = .ok (.iinc 3 1, 3) := by decide +kernel
theorem dX3_allBelow_32 : decode cX3_allBelow 32 = .ok (.goto (-28), 3) := by decide +kernel
theorem dX3_allBelow_35 : decode cX3_allBelow 35 = .ok (.iload_n 2, 1) := by decide +kernel
theorem dX3_allBelow_36 : decode cX3_allBelow 36 = .ok (.ireturn, 1) := by decide +kernel
theorem dX3_greatestOf_0 : decode cX3_greatestOf 0 = .ok (.iload_n 1, 1) := by decide +kernel
theorem dX3_greatestOf_1 : decode cX3_greatestOf 1 = .ok (.aload_n 0, 1) := by decide +kernel
theorem dX3_greatestOf_2 : decode cX3_greatestOf 2 = .ok (.iload_n 1, 1) := by decide +kernel
theorem dX3_greatestOf_3 : decode cX3_greatestOf 3 = .ok (.invokevirtual 72, 3) := by decide +kernel
theorem dX3_greatestOf_6 : decode cX3_greatestOf 6 = .ok (.iconst (-1), 1) := by decide +kernel
theorem dX3_greatestOf_7 : decode cX3_greatestOf 7 = .ok (.ixor, 1) := by decide +kernel
theorem dX3_greatestOf_8 : decode cX3_greatestOf 8 = .ok (.iand, 1) := by decide +kernel
theorem dX3_greatestOf_9 : decode cX3_greatestOf 9 = .ok (.ireturn, 1) := by decide +kernel
theorem dX3_nextCount_0 : decode cX3_nextCount 0 = .ok (.iconst 0, 1) := by decide +kernel
theorem dX3_nextCount_1 : decode cX3_nextCount 1 = .ok (.istore_n 1, 1) := by decide +kernel
theorem dX3_nextCount_2 : decode cX3_nextCount 2 = .ok (.iconst 0, 1) := by decide +kernel
theorem dX3_nextCount_3 : decode cX3_nextCount 3 = .ok (.istore_n 2, 1) := by decide +kernel
theorem dX3_nextCount_4 : decode cX3_nextCount 4 = .ok (.iload_n 2, 1) := by decide +kernel
theorem dX3_nextCount_5 : decode cX3_nextCount 5 = .ok (.aload_n 0, 1) := by decide +kernel
theorem dX3_nextCount_6 : decode cX3_nextCount 6 = .ok (.getfield 22, 3) := by decide +kernel
theorem dX3_nextCount_9 : decode cX3_nextCount 9 = .ok (.if_icmp .ge 25, 3) := by decide +kernel
theorem dX3_nextCount_12 : decode cX3_nextCount 12 = .ok (.iload_n 1, 1) := by decide +kernel
theorem dX3_nextCount_13 : decode cX3_nextCount 13 = .ok (.aload_n 0, 1) := by decide +kernel
theorem dX3_nextCount_14 : decode cX3_nextCount 14 = .ok (.aload_n 0, 1) := by decide +kernel
theorem dX3_nextCount_15 : decode cX3_nextCount 15 = .ok (.getfield 9, 3) := by decide +kernel
theorem dX3_nextCount_18 : decode cX3_nextCount 18 = .ok (.iload_n 2, 1) := by decide +kernel
theorem dX3_nextCount_19 : decode cX3_nextCount 19 = .ok (.iaload, 1) := by decide +kernel
theorem dX3_nextCount_20 : decode cX3_nextCount 20 = .ok (.invokevirtual 69, 3) := by decide +kernel
theorem dX3_nextCount_23 : decode cX3_nextCount 23 = .ok (.invokestatic 64, 3) := by decide +kernel
theorem dX3_nextCount_26 : decode cX3_nextCount 26 = .ok (.iadd, 1) := by decide +kernel
theorem dX3_nextCount_27 : decode cX3_nextCount 27 = .ok (.istore_n 1, 1) := by decide +kernel
theorem dX3_nextCount_28 : decode cX3_nextCount 28 = .ok (.iinc 2 1, 3) := by decide +kernel
theorem dX3_nextCount_31 : decode cX3_nextCount 31 = .ok (.goto (-27), 3) := by decide +kernel
theorem dX3_nextCount_34 : decode cX3_nextCount 34 = .ok (.iload_n 1, 1) := by decide +kernel
theorem dX3_nextCount_35 : decode cX3_nextCount 35 = .ok (.ireturn, 1) := by decide +kernel
theorem dX3_hasPairsOf_0 : decode cX3_hasPairsOf 0 = .ok (.aload_n 0, 1) := by decide +kernel
theorem dX3_hasPairsOf_1 : decode cX3_hasPairsOf 1 = .ok (.getfield 22, 3) := by decide +kernel
theorem dX3_hasPairsOf_4 : decode cX3_hasPairsOf 4 = .ok (.aload_n 1, 1) := by decide +kernel
theorem dX3_hasPairsOf_5 : decode cX3_hasPairsOf 5 = .ok (.getfield 22, 3) := by decide +kernel
theorem dX3_hasPairsOf_8 : decode cX3_hasPairsOf 8 = .ok (.if_icmp .eq 5, 3) := by decide +kernel
theorem dX3_hasPairsOf_11 : decode cX3_hasPairsOf 11 = .ok (.iconst 0, 1) := by decide +kernel
theorem dX3_hasPairsOf_12 : decode cX3_hasPairsOf 12 = .ok (.ireturn, 1) := by decide +kernel
theorem dX3_hasPairsOf_13 : decode cX3_hasPairsOf 13 = .ok (.iconst 0, 1) := by decide +kernel
theorem dX3_hasPairsOf_14 : decode cX3_hasPairsOf 14 = .ok (.istore_n 2, 1) := by decide +kernel
theorem dX3_hasPairsOf_15 : decode cX3_hasPairsOf 15 = .ok (.iload_n 2, 1) := by decide +kernel
theorem dX3_hasPairsOf_16 : decode cX3_hasPairsOf 16 = .ok (.aload_n 0, 1) := by decide +kernel
theorem dX3_hasPairsOf_17 : decode cX3_hasPairsOf 17 = .ok (.getfield 22, 3) := by decide +kernel
theorem dX3_hasPairsOf_20 : decode cX3_hasPairsOf 20 = .ok (.if_icmp .ge 26, 3) := by decide +kernel
theorem dX3_hasPairsOf_23 : decode cX3_hasPairsOf 23 = .ok (.aload_n 0, 1) := by decide +kernel
theorem dX3_hasPairsOf_24 : decode cX3_hasPairsOf 24 = .ok (.getfield 9, 3) := by decide +kernel
theorem dX3_hasPairsOf_27 : decode cX3_hasPairsOf 27 = .ok (.iload_n 2, 1) := by decide +kernel
theorem dX3_hasPairsOf_28 : decode cX3_hasPairsOf 28 = .ok (.iaload, 1) := by decide +kernel
theorem dX3_hasPairsOf_29 : decode cX3_hasPairsOf 29 = .ok (.aload_n 1, 1) := by decide +kernel
theorem dX3_hasPairsOf_30 : decode cX3_hasPairsOf 30 = .ok (.getfield 9, 3) := by decide +kernel
theorem dX3_hasPairsOf_33 : decode cX3_hasPairsOf 33 = .ok (.iload_n 2, 1) := by decide +kernel
theorem dX3_hasPairsOf_34 : decode cX3_hasPairsOf 34 = .ok (.iaload, 1) := by decide +kernel
theorem dX3_hasPairsOf_35 : decode cX3_hasPairsOf 35 = .ok (.if_icmp .eq 5, 3) := by decide +kernel
theorem dX3_hasPairsOf_38 : decode cX3_hasPairsOf 38 = .ok (.iconst 0, 1) := by decide +kernel
theorem dX3_hasPairsOf_39 : decode cX3_hasPairsOf 39 = .ok (.ireturn, 1) := by decide +kernel
theorem dX3_hasPairsOf_40 : decode cX3_hasPairsOf 40 = .ok (.iinc 2 1, 3) := by decide +kernel
theorem dX3_hasPairsOf_43 : decode cX3_hasPairsOf 43 = .ok (.goto (-28), 3) := by decide +kernel
theorem dX3_hasPairsOf_46 : decode cX3_hasPairsOf 46 = .ok (.iconst 1, 1) := by decide +kernel
theorem dX3_hasPairsOf_47 : decode cX3_hasPairsOf 47 = .ok (.ireturn, 1) := by decide +kernel
theorem dX3_filledUp_0 : decode cX3_filledUp 0 = .ok (.iload_n 1, 1) := by decide +kernel
theorem dX3_filledUp_1 : decode cX3_filledUp 1 = .ok (.aload_n 0, 1) := by decide +kernel
theorem dX3_filledUp_2 : decode cX3_filledUp 2 = .ok (.iload_n 1, 1) := by decide +kernel
theorem dX3_filledUp_3 : decode cX3_filledUp 3 = .ok (.invokevirtual 72, 3) := by decide +kernel
theorem dX3_filledUp_6 : decode cX3_filledUp 6 = .ok (.ior, 1) := by decide +kernel
theorem dX3_filledUp_7 : decode cX3_filledUp 7 = .ok (.ireturn, 1) := by decide +kernel
theorem dX3_pared_0 : decode cX3_pared 0 = .ok (.iconst 0, 1) := by decide +kernel
theorem dX3_pared_1 : decode cX3_pared 1 = .ok (.istore_n 2, 1) := by decide +kernel
theorem dX3_pared_2 : decode cX3_pared 2 = .ok (.iconst 0, 1) := by decide +kernel
theorem dX3_pared_3 : decode cX3_pared 3 = .ok (.istore_n 3, 1) := by decide +kernel
theorem dX3_pared_4 : decode cX3_pared 4 = .ok (.iload_n 3, 1) := by decide +kernel
theorem dX3_pared_5 : decode cX3_pared 5 = .ok (.aload_n 0, 1) := by decide +kernel
theorem dX3_pared_6 : decode cX3_pared 6 = .ok (.getfield 22, 3) := by decide +kernel
theorem dX3_pared_9 : decode cX3_pared 9 = .ok (.if_icmp .ge 36, 3) := by decide +kernel
theorem dX3_pared_12 : decode cX3_pared 12 = .ok (.iload_n 1, 1) := by decide +kernel
theorem dX3_pared_13 : decode cX3_pared 13 = .ok (.iload_n 3, 1) := by decide +kernel
theorem dX3_pared_14 : decode cX3_pared 14 = .ok (.invokestatic 30, 3) := by decide +kernel
theorem dX3_pared_17 : decode cX3_pared 17 = .ok (.ifCond .eq 22, 3) := by decide +kernel
theorem dX3_pared_20 : decode cX3_pared 20 = .ok (.aload_n 0, 1) := by decide +kernel
theorem dX3_pared_21 : decode cX3_pared 21 = .ok (.getfield 9, 3) := by decide +kernel
theorem dX3_pared_24 : decode cX3_pared 24 = .ok (.iload_n 3, 1) := by decide +kernel
theorem dX3_pared_25 : decode cX3_pared 25 = .ok (.iaload, 1) := by decide +kernel
theorem dX3_pared_26 : decode cX3_pared 26 = .ok (.iload_n 1, 1) := by decide +kernel
theorem dX3_pared_27 : decode cX3_pared 27 = .ok (.invokestatic 75, 3) := by decide +kernel
theorem dX3_pared_30 : decode cX3_pared 30 = .ok (.ifCond .eq 9, 3) := by decide +kernel
theorem dX3_pared_33 : decode cX3_pared 33 = .ok (.iload_n 2, 1) := by decide +kernel
theorem dX3_pared_34 : decode cX3_pared 34 = .ok (.iconst 1, 1) := by decide +kernel
theorem dX3_pared_35 : decode cX3_pared 35 = .ok (.iload_n 3, 1) := by decide +kernel
theorem dX3_pared_36 : decode cX3_pared 36 = .ok (.ishl, 1) := by decide +kernel
theorem dX3_pared_37 : decode cX3_pared 37 = .ok (.ior, 1) := by decide +kernel
theorem dX3_pared_38 : decode cX3_pared 38 = .ok (.istore_n 2, 1) := by decide +kernel
theorem dX3_pared_39 : decode cX3_pared 39 = .ok (.iinc 3 1, 3) := by decide +kernel
theorem dX3_pared_42 : decode cX3_pared 42 = .ok (.goto (-38), 3) := by decide +kernel
theorem dX3_pared_45 : decode cX3_pared 45 = .ok (.iload_n 2, 1) := by decide +kernel
theorem dX3_pared_46 : decode cX3_pared 46 = .ok (.ireturn, 1) := by decide +kernel
theorem dX3_canCome_0 : decode cX3_canCome 0 = .ok (.iload_n 1, 1) := by decide +kernel
theorem dX3_canCome_1 : decode cX3_canCome 1 = .ok (.iload_n 2, 1) := by decide +kernel
theorem dX3_canCome_2 : decode cX3_canCome 2 = .ok (.ishr, 1) := by decide +kernel
theorem dX3_canCome_3 : decode cX3_canCome 3 = .ok (.iconst 1, 1) := by decide +kernel
theorem dX3_canCome_4 : decode cX3_canCome 4 = .ok (.iand, 1) := by decide +kernel
theorem dX3_canCome_5 : decode cX3_canCome 5 = .ok (.ifCond .ne 20, 3) := by decide +kernel
theorem dX3_canCome_8 : decode cX3_canCome 8 = .ok (.aload_n 0, 1) := by decide +kernel
theorem dX3_canCome_9 : decode cX3_canCome 9 = .ok (.getfield 9, 3) := by decide +kernel
theorem dX3_canCome_12 : decode cX3_canCome 12 = .ok (.iload_n 2, 1) := by decide +kernel
theorem dX3_canCome_13 : decode cX3_canCome 13 = .ok (.iaload, 1) := by decide +kernel
theorem dX3_canCome_14 : decode cX3_canCome 14 = .ok (.iload_n 1, 1) := by decide +kernel
theorem dX3_canCome_15 : decode cX3_canCome 15 = .ok (.iconst (-1), 1) := by decide +kernel
theorem dX3_canCome_16 : decode cX3_canCome 16 = .ok (.ixor, 1) := by decide +kernel
theorem dX3_canCome_17 : decode cX3_canCome 17 = .ok (.iand, 1) := by decide +kernel
theorem dX3_canCome_18 : decode cX3_canCome 18 = .ok (.ifCond .ne 7, 3) := by decide +kernel
theorem dX3_canCome_21 : decode cX3_canCome 21 = .ok (.iconst 1, 1) := by decide +kernel
theorem dX3_canCome_22 : decode cX3_canCome 22 = .ok (.goto 4, 3) := by decide +kernel
theorem dX3_canCome_25 : decode cX3_canCome 25 = .ok (.iconst 0, 1) := by decide +kernel
theorem dX3_canCome_26 : decode cX3_canCome 26 = .ok (.ireturn, 1) := by decide +kernel
theorem dX4_passOn_0 : decode cX4_passOn 0 = .ok (.iconst 0, 1) := by decide +kernel
theorem dX4_passOn_1 : decode cX4_passOn 1 = .ok (.istore_n 3, 1) := by decide +kernel
theorem dX4_passOn_2 : decode cX4_passOn 2 = .ok (.iload_n 3, 1) := by decide +kernel
theorem dX4_passOn_3 : decode cX4_passOn 3 = .ok (.aload_n 1, 1) := by decide +kernel
theorem dX4_passOn_4 : decode cX4_passOn 4 = .ok (.getfield 31, 3) := by decide +kernel
theorem dX4_passOn_7 : decode cX4_passOn 7 = .ok (.if_icmp .ge 37, 3) := by decide +kernel
theorem dX4_passOn_10 : decode cX4_passOn 10 = .ok (.aload_n 1, 1) := by decide +kernel
theorem dX4_passOn_11 : decode cX4_passOn 11 = .ok (.iload_n 2, 1) := by decide +kernel
theorem dX4_passOn_12 : decode cX4_passOn 12 = .ok (.iload_n 3, 1) := by decide +kernel
theorem dX4_passOn_13 : decode cX4_passOn 13 = .ok (.invokevirtual 35, 3) := by decide +kernel
theorem dX4_passOn_16 : decode cX4_passOn 16 = .ok (.ifCond .eq 22, 3) := by decide +kernel
theorem dX4_passOn_19 : decode cX4_passOn 19 = .ok (.aload_n 0, 1) := by decide +kernel
theorem dX4_passOn_20 : decode cX4_passOn 20 = .ok (.getfield 9, 3) := by decide +kernel
theorem dX4_passOn_23 : decode cX4_passOn 23 = .ok (.iload_n 2, 1) := by decide +kernel
theorem dX4_passOn_24 : decode cX4_passOn 24 = .ok (.iconst 1, 1) := by decide +kernel
theorem dX4_passOn_25 : decode cX4_passOn 25 = .ok (.iload_n 3, 1) := by decide +kernel
theorem dX4_passOn_26 : decode cX4_passOn 26 = .ok (.ishl, 1) := by decide +kernel
theorem dX4_passOn_27 : decode cX4_passOn 27 = .ok (.ior, 1) := by decide +kernel
theorem dX4_passOn_28 : decode cX4_passOn 28 = .ok (.dup2, 1) := by decide +kernel
theorem dX4_passOn_29 : decode cX4_passOn 29 = .ok (.iaload, 1) := by decide +kernel
theorem dX4_passOn_30 : decode cX4_passOn 30 = .ok (.aload_n 0, 1) := by decide +kernel
theorem dX4_passOn_31 : decode cX4_passOn 31 = .ok (.getfield 9, 3) := by decide +kernel
theorem dX4_passOn_34 : decode cX4_passOn 34 = .ok (.iload_n 2, 1) := by decide +kernel
theorem dX4_passOn_35 : decode cX4_passOn 35 = .ok (.iaload, 1) := by decide +kernel
theorem dX4_passOn_36 : decode cX4_passOn 36 = .ok (.iadd, 1) := by decide +kernel
theorem dX4_passOn_37 : decode cX4_passOn 37 = .ok (.iastore, 1) := by decide +kernel
theorem dX4_passOn_38 : decode cX4_passOn 38 = .ok (.iinc 3 1, 3) := by decide +kernel
theorem dX4_passOn_41 : decode cX4_passOn 41 = .ok (.goto (-39), 3) := by decide +kernel
theorem dX4_passOn_44 : decode cX4_passOn 44 = .ok (.return_, 1) := by decide +kernel
theorem dX4_count_0 : decode cX4_count 0 = .ok (.aload_n 1, 1) := by decide +kernel
theorem dX4_count_1 : decode cX4_count 1 = .ok (.invokevirtual 21, 3) := by decide +kernel
theorem dX4_count_4 : decode cX4_count 4 = .ok (.istore_n 2, 1) := by decide +kernel
theorem dX4_count_5 : decode cX4_count 5 = .ok (.iconst 1, 1) := by decide +kernel
theorem dX4_count_6 : decode cX4_count 6 = .ok (.istore_n 3, 1) := by decide +kernel
theorem dX4_count_7 : decode cX4_count 7 = .ok (.iload_n 3, 1) := by decide +kernel
theorem dX4_count_8 : decode cX4_count 8 = .ok (.iload_n 2, 1) := by decide +kernel
theorem dX4_count_9 : decode cX4_count 9 = .ok (.if_icmp .ge 16, 3) := by decide +kernel
theorem dX4_count_12 : decode cX4_count 12 = .ok (.aload_n 0, 1) := by decide +kernel
theorem dX4_count_13 : decode cX4_count 13 = .ok (.getfield 9, 3) := by decide +kernel
theorem dX4_count_16 : decode cX4_count 16 = .ok (.iload_n 3, 1) := by decide +kernel
theorem dX4_count_17 : decode cX4_count 17 = .ok (.iconst 0, 1) := by decide +kernel
theorem dX4_count_18 : decode cX4_count 18 = .ok (.iastore, 1) := by decide +kernel
theorem dX4_count_19 : decode cX4_count 19 = .ok (.iinc 3 1, 3) := by decide +kernel
theorem dX4_count_22 : decode cX4_count 22 = .ok (.goto (-15), 3) := by decide +kernel
theorem dX4_count_25 : decode cX4_count 25 = .ok (.aload_n 0, 1) := by decide +kernel
theorem dX4_count_26 : decode cX4_count 26 = .ok (.getfield 9, 3) := by decide +kernel
theorem dX4_count_29 : decode cX4_count 29 = .ok (.iconst 0, 1) := by decide +kernel
theorem dX4_count_30 : decode cX4_count 30 = .ok (.iconst 1, 1) := by decide +kernel
theorem dX4_count_31 : decode cX4_count 31 = .ok (.iastore, 1) := by decide +kernel
theorem dX4_count_32 : decode cX4_count 32 = .ok (.iconst 0, 1) := by decide +kernel
theorem dX4_count_33 : decode cX4_count 33 = .ok (.istore_n 3, 1) := by decide +kernel
theorem dX4_count_34 : decode cX4_count 34 = .ok (.iload_n 3, 1) := by decide +kernel
theorem dX4_count_35 : decode cX4_count 35 = .ok (.iload_n 2, 1) := by decide +kernel
theorem dX4_count_36 : decode cX4_count 36 = .ok (.if_icmp .ge 24, 3) := by decide +kernel
theorem dX4_count_39 : decode cX4_count 39 = .ok (.aload_n 0, 1) := by decide +kernel
theorem dX4_count_40 : decode cX4_count 40 = .ok (.getfield 9, 3) := by decide +kernel
theorem dX4_count_43 : decode cX4_count 43 = .ok (.iload_n 3, 1) := by decide +kernel
theorem dX4_count_44 : decode cX4_count 44 = .ok (.iaload, 1) := by decide +kernel
theorem dX4_count_45 : decode cX4_count 45 = .ok (.ifCond .eq 9, 3) := by decide +kernel
theorem dX4_count_48 : decode cX4_count 48 = .ok (.aload_n 0, 1) := by decide +kernel
theorem dX4_count_49 : decode cX4_count 49 = .ok (.aload_n 1, 1) := by decide +kernel
theorem dX4_count_50 : decode cX4_count 50 = .ok (.iload_n 3, 1) := by decide +kernel
theorem dX4_count_51 : decode cX4_count 51 = .ok (.invokevirtual 27, 3) := by decide +kernel
theorem dX4_count_54 : decode cX4_count 54 = .ok (.iinc 3 1, 3) := by decide +kernel
theorem dX4_count_57 : decode cX4_count 57 = .ok (.goto (-23), 3) := by decide +kernel
theorem dX4_count_60 : decode cX4_count 60 = .ok (.aload_n 0, 1) := by decide +kernel
theorem dX4_count_61 : decode cX4_count 61 = .ok (.getfield 9, 3) := by decide +kernel
theorem dX4_count_64 : decode cX4_count 64 = .ok (.iload_n 2, 1) := by decide +kernel
theorem dX4_count_65 : decode cX4_count 65 = .ok (.iconst 1, 1) := by decide +kernel
theorem dX4_count_66 : decode cX4_count 66 = .ok (.isub, 1) := by decide +kernel
theorem dX4_count_67 : decode cX4_count 67 = .ok (.iaload, 1) := by decide +kernel
theorem dX4_count_68 : decode cX4_count 68 = .ok (.ireturn, 1) := by decide +kernel
theorem dX4_waysByLesser_0 : decode cX4_waysByLesser 0 = .ok (.iconst 0, 1) := by decide +kernel
theorem dX4_waysByLesser_1 : decode cX4_waysByLesser 1 = .ok (.istore 4, 2) := by decide +kernel
theorem dX4_waysByLesser_3 : decode cX4_waysByLesser 3 = .ok (.iconst 0, 1) := by decide +kernel
theorem dX4_waysByLesser_4 : decode cX4_waysByLesser 4 = .ok (.istore 5, 2) := by decide +kernel
theorem dX4_waysByLesser_6 : decode cX4_waysByLesser 6 = .ok (.iload 5, 2) := by decide +kernel
theorem dX4_waysByLesser_8 : decode cX4_waysByLesser 8 = .ok (.iload_n 3, 1) := by decide +kernel
theorem dX4_waysByLesser_9 : decode cX4_waysByLesser 9 = .ok (.if_icmp .ge 35, 3) := by decide +kernel
theorem dX4_waysByLesser_12 : decode cX4_waysByLesser 12 = .ok (.aload_n 1, 1) := by decide +kernel
theorem dX4_waysByLesser_13 : decode cX4_waysByLesser 13 = .ok (.iload_n 2, 1) := by decide +kernel
theorem dX4_waysByLesser_14 : decode cX4_waysByLesser 14 = .ok (.iload 5, 2) := by decide +kernel
theorem dX4_waysByLesser_16 : decode cX4_waysByLesser 16 = .ok (.invokevirtual 35, 3) := by decide +kernel
theorem dX4_waysByLesser_19 : decode cX4_waysByLesser 19 = .ok (.ifCond .eq 19, 3) := by decide +kernel
theorem dX4_waysByLesser_22 : decode cX4_waysByLesser 22 = .ok (.iload 4, 2) := by decide +kernel
theorem dX4_waysByLesser_24 : decode cX4_waysByLesser 24 = .ok (.aload_n 0, 1) := by decide +kernel
theorem dX4_waysByLesser_25 : decode cX4_waysByLesser 25 = .ok (.getfield 15, 3) := by decide +kernel
theorem dX4_waysByLesser_28 : decode cX4_waysByLesser 28 = .ok (.iload_n 2, 1) := by decide +kernel
theorem dX4_waysByLesser_29 : decode cX4_waysByLesser 29 = .ok (.iconst 1, 1) := by decide +kernel
theorem dX4_waysByLesser_30 : decode cX4_waysByLesser 30 = .ok (.iload 5, 2) := by decide +kernel
theorem dX4_waysByLesser_32 : decode cX4_waysByLesser 32 = .ok (.ishl, 1) := by decide +kernel
theorem dX4_waysByLesser_33 : decode cX4_waysByLesser 33 = .ok (.ior, 1) := by decide +kernel
theorem dX4_waysByLesser_34 : decode cX4_waysByLesser 34 = .ok (.iaload, 1) := by decide +kernel
theorem dX4_waysByLesser_35 : decode cX4_waysByLesser 35 = .ok (.iadd, 1) := by decide +kernel
theorem dX4_waysByLesser_36 : decode cX4_waysByLesser 36 = .ok (.istore 4, 2) := by decide +kernel
theorem dX4_waysByLesser_38 : decode cX4_waysByLesser 38 = .ok (.iinc 5 1, 3) := by decide +kernel
theorem dX4_waysByLesser_41 : decode cX4_waysByLesser 41 = .ok (.goto (-35), 3) := by decide +kernel
theorem dX4_waysByLesser_44 : decode cX4_waysByLesser 44 = .ok (.iload 4, 2) := by decide +kernel
theorem dX4_waysByLesser_46 : decode cX4_waysByLesser 46 = .ok (.ireturn, 1) := by decide +kernel
theorem dX4_fill_0 : decode cX4_fill 0 = .ok (.aload_n 0, 1) := by decide +kernel
theorem dX4_fill_1 : decode cX4_fill 1 = .ok (.aload_n 1, 1) := by decide +kernel
theorem dX4_fill_2 : decode cX4_fill 2 = .ok (.invokevirtual 39, 3) := by decide +kernel
theorem dX4_fill_5 : decode cX4_fill 5 = .ok (.istore_n 2, 1) := by decide +kernel
theorem dX4_fill_6 : decode cX4_fill 6 = .ok (.aload_n 1, 1) := by decide +kernel
theorem dX4_fill_7 : decode cX4_fill 7 = .ok (.invokevirtual 42, 3) := by decide +kernel
theorem dX4_fill_10 : decode cX4_fill 10 = .ok (.istore_n 3, 1) := by decide +kernel
theorem dX4_fill_11 : decode cX4_fill 11 = .ok (.iload_n 3, 1) := by decide +kernel
theorem dX4_fill_12 : decode cX4_fill 12 = .ok (.ifCond .lt 46, 3) := by decide +kernel
theorem dX4_fill_15 : decode cX4_fill 15 = .ok (.aload_n 0, 1) := by decide +kernel
theorem dX4_fill_16 : decode cX4_fill 16 = .ok (.getfield 9, 3) := by decide +kernel
theorem dX4_fill_19 : decode cX4_fill 19 = .ok (.iload_n 3, 1) := by decide +kernel
theorem dX4_fill_20 : decode cX4_fill 20 = .ok (.iaload, 1) := by decide +kernel
theorem dX4_fill_21 : decode cX4_fill 21 = .ok (.ifCond .eq 31, 3) := by decide +kernel
theorem dX4_fill_24 : decode cX4_fill 24 = .ok (.aload_n 0, 1) := by decide +kernel
theorem dX4_fill_25 : decode cX4_fill 25 = .ok (.getfield 15, 3) := by decide +kernel
theorem dX4_fill_28 : decode cX4_fill 28 = .ok (.iload_n 3, 1) := by decide +kernel
theorem dX4_fill_29 : decode cX4_fill 29 = .ok (.iload_n 3, 1) := by decide +kernel
theorem dX4_fill_30 : decode cX4_fill 30 = .ok (.aload_n 1, 1) := by decide +kernel
theorem dX4_fill_31 : decode cX4_fill 31 = .ok (.invokevirtual 42, 3) := by decide +kernel
theorem dX4_fill_34 : decode cX4_fill 34 = .ok (.if_icmp .ne 7, 3) := by decide +kernel
theorem dX4_fill_37 : decode cX4_fill 37 = .ok (.iconst 1, 1) := by decide +kernel
theorem dX4_fill_38 : decode cX4_fill 38 = .ok (.goto 13, 3) := by decide +kernel
theorem dX4_fill_41 : decode cX4_fill 41 = .ok (.aload_n 0, 1) := by decide +kernel
theorem dX4_fill_42 : decode cX4_fill 42 = .ok (.aload_n 1, 1) := by decide +kernel
theorem dX4_fill_43 : decode cX4_fill 43 = .ok (.iload_n 3, 1) := by decide +kernel
theorem dX4_fill_44 : decode cX4_fill 44 = .ok (.aload_n 1, 1) := by decide +kernel
theorem dX4_fill_45 : decode cX4_fill 45 = .ok (.getfield 31, 3) := by decide +kernel
theorem dX4_fill_48 : decode cX4_fill 48 = .ok (.invokevirtual 45, 3) := by decide +kernel
theorem dX4_fill_51 : decode cX4_fill 51 = .ok (.iastore, 1) := by decide +kernel
theorem dX4_fill_52 : decode cX4_fill 52 = .ok (.iinc 3 (-1), 3) := by decide +kernel
theorem dX4_fill_55 : decode cX4_fill 55 = .ok (.goto (-44), 3) := by decide +kernel
theorem dX4_fill_58 : decode cX4_fill 58 = .ok (.iload_n 2, 1) := by decide +kernel
theorem dX4_fill_59 : decode cX4_fill 59 = .ok (.ireturn, 1) := by decide +kernel
theorem dX4_isReached_0 : decode cX4_isReached 0 = .ok (.aload_n 0, 1) := by decide +kernel
theorem dX4_isReached_1 : decode cX4_isReached 1 = .ok (.getfield 9, 3) := by decide +kernel
theorem dX4_isReached_4 : decode cX4_isReached 4 = .ok (.iload_n 1, 1) := by decide +kernel
theorem dX4_isReached_5 : decode cX4_isReached 5 = .ok (.iaload, 1) := by decide +kernel
theorem dX4_isReached_6 : decode cX4_isReached 6 = .ok (.ifCond .eq 7, 3) := by decide +kernel
theorem dX4_isReached_9 : decode cX4_isReached 9 = .ok (.iconst 1, 1) := by decide +kernel
theorem dX4_isReached_10 : decode cX4_isReached 10 = .ok (.goto 4, 3) := by decide +kernel
theorem dX4_isReached_13 : decode cX4_isReached 13 = .ok (.iconst 0, 1) := by decide +kernel
theorem dX4_isReached_14 : decode cX4_isReached 14 = .ok (.ireturn, 1) := by decide +kernel
theorem dX4_thingFor_0 : decode cX4_thingFor 0 = .ok (.iconst 0, 1) := by decide +kernel
theorem dX4_thingFor_1 : decode cX4_thingFor 1 = .ok (.istore 4, 2) := by decide +kernel
theorem dX4_thingFor_3 : decode cX4_thingFor 3 = .ok (.iconst 0, 1) := by decide +kernel
theorem dX4_thingFor_4 : decode cX4_thingFor 4 = .ok (.istore 5, 2) := by decide +kernel
theorem dX4_thingFor_6 : decode cX4_thingFor 6 = .ok (.iload 5, 2) := by decide +kernel
theorem dX4_thingFor_8 : decode cX4_thingFor 8 = .ok (.aload_n 1, 1) := by decide +kernel
theorem dX4_thingFor_9 : decode cX4_thingFor 9 = .ok (.getfield 31, 3) := by decide +kernel
theorem dX4_thingFor_12 : decode cX4_thingFor 12 = .ok (.if_icmp .ge 35, 3) := by decide +kernel
theorem dX4_thingFor_15 : decode cX4_thingFor 15 = .ok (.aload_n 1, 1) := by decide +kernel
theorem dX4_thingFor_16 : decode cX4_thingFor 16 = .ok (.iload_n 2, 1) := by decide +kernel
theorem dX4_thingFor_17 : decode cX4_thingFor 17 = .ok (.iload 5, 2) := by decide +kernel
theorem dX4_thingFor_19 : decode cX4_thingFor 19 = .ok (.invokevirtual 35, 3) := by decide +kernel
theorem dX4_thingFor_22 : decode cX4_thingFor 22 = .ok (.ifCond .eq 19, 3) := by decide +kernel
theorem dX4_thingFor_25 : decode cX4_thingFor 25 = .ok (.aload_n 0, 1) := by decide +kernel
theorem dX4_thingFor_26 : decode cX4_thingFor 26 = .ok (.aload_n 1, 1) := by decide +kernel
theorem dX4_thingFor_27 : decode cX4_thingFor 27 = .ok (.iload_n 2, 1) := by decide +kernel
theorem dX4_thingFor_28 : decode cX4_thingFor 28 = .ok (.iload 5, 2) := by decide +kernel
theorem dX4_thingFor_30 : decode cX4_thingFor 30 = .ok (.invokevirtual 45, 3) := by decide +kernel
theorem dX4_thingFor_33 : decode cX4_thingFor 33 = .ok (.iload_n 3, 1) := by decide +kernel
theorem dX4_thingFor_34 : decode cX4_thingFor 34 = .ok (.if_icmp .gt 7, 3) := by decide +kernel
theorem dX4_thingFor_37 : decode cX4_thingFor 37 = .ok (.iload 5, 2) := by decide +kernel
theorem dX4_thingFor_39 : decode cX4_thingFor 39 = .ok (.istore 4, 2) := by decide +kernel
theorem dX4_thingFor_41 : decode cX4_thingFor 41 = .ok (.iinc 5 1, 3) := by decide +kernel
theorem dX4_thingFor_44 : decode cX4_thingFor 44 = .ok (.goto (-38), 3) := by decide +kernel
theorem dX4_thingFor_47 : decode cX4_thingFor 47 = .ok (.iload 4, 2) := by decide +kernel
theorem dX4_thingFor_49 : decode cX4_thingFor 49 = .ok (.ireturn, 1) := by decide +kernel
theorem dX4_layOut_0 : decode cX4_layOut 0 = .ok (.iconst 0, 1) := by decide +kernel
theorem dX4_layOut_1 : decode cX4_layOut 1 = .ok (.istore_n 3, 1) := by decide +kernel
theorem dX4_layOut_2 : decode cX4_layOut 2 = .ok (.iload_n 2, 1) := by decide +kernel
theorem dX4_layOut_3 : decode cX4_layOut 3 = .ok (.istore 4, 2) := by decide +kernel
theorem dX4_layOut_5 : decode cX4_layOut 5 = .ok (.iconst 0, 1) := by decide +kernel
theorem dX4_layOut_6 : decode cX4_layOut 6 = .ok (.istore 5, 2) := by decide +kernel
theorem dX4_layOut_8 : decode cX4_layOut 8 = .ok (.iload 5, 2) := by decide +kernel
theorem dX4_layOut_10 : decode cX4_layOut 10 = .ok (.aload_n 1, 1) := by decide +kernel
theorem dX4_layOut_11 : decode cX4_layOut 11 = .ok (.getfield 31, 3) := by decide +kernel
theorem dX4_layOut_14 : decode cX4_layOut 14 = .ok (.if_icmp .ge 48, 3) := by decide +kernel
theorem dX4_layOut_17 : decode cX4_layOut 17 = .ok (.aload_n 0, 1) := by decide +kernel
theorem dX4_layOut_18 : decode cX4_layOut 18 = .ok (.aload_n 1, 1) := by decide +kernel
theorem dX4_layOut_19 : decode cX4_layOut 19 = .ok (.iload_n 3, 1) := by decide +kernel
theorem dX4_layOut_20 : decode cX4_layOut 20 = .ok (.iload 4, 2) := by decide +kernel
theorem dX4_layOut_22 : decode cX4_layOut 22 = .ok (.invokevirtual 49, 3) := by decide +kernel
theorem dX4_layOut_25 : decode cX4_layOut 25 = .ok (.istore 6, 2) := by decide +kernel
theorem dX4_layOut_27 : decode cX4_layOut 27 = .ok (.iload 4, 2) := by decide +kernel
theorem dX4_layOut_29 : decode cX4_layOut 29 = .ok (.aload_n 0, 1) := by decide +kernel
theorem dX4_layOut_30 : decode cX4_layOut 30 = .ok (.aload_n 1, 1) := by decide +kernel
theorem dX4_layOut_31 : decode cX4_layOut 31 = .ok (.iload_n 3, 1) := by decide +kernel
theorem dX4_layOut_32 : decode cX4_layOut 32 = .ok (.iload 6, 2) := by decide +kernel
theorem dX4_layOut_34 : decode cX4_layOut 34 = .ok (.invokevirtual 45, 3) := by decide +kernel
theorem dX4_layOut_37 : decode cX4_layOut 37 = .ok (.isub, 1) := by decide +kernel
theorem dX4_layOut_38 : decode cX4_layOut 38 = .ok (.istore 4, 2) := by decide +kernel
theorem dX4_layOut_40 : decode cX4_layOut 40 = .ok (.aload_n 0, 1) := by decide +kernel
theorem dX4_layOut_41 : decode cX4_layOut 41 = .ok (.getfield 18, 3) := by decide +kernel
theorem dX4_layOut_44 : decode cX4_layOut 44 = .ok (.iload 5, 2) := by decide +kernel
theorem dX4_layOut_46 : decode cX4_layOut 46 = .ok (.iload 6, 2) := by decide +kernel
theorem dX4_layOut_48 : decode cX4_layOut 48 = .ok (.iastore, 1) := by decide +kernel
theorem dX4_layOut_49 : decode cX4_layOut 49 = .ok (.iload_n 3, 1) := by decide +kernel
theorem dX4_layOut_50 : decode cX4_layOut 50 = .ok (.iconst 1, 1) := by decide +kernel
theorem dX4_layOut_51 : decode cX4_layOut 51 = .ok (.iload 6, 2) := by decide +kernel
theorem dX4_layOut_53 : decode cX4_layOut 53 = .ok (.ishl, 1) := by decide +kernel
theorem dX4_layOut_54 : decode cX4_layOut 54 = .ok (.ior, 1) := by decide +kernel
theorem dX4_layOut_55 : decode cX4_layOut 55 = .ok (.istore_n 3, 1) := by decide +kernel
theorem dX4_layOut_56 : decode cX4_layOut 56 = .ok (.iinc 5 1, 3) := by decide +kernel
theorem dX4_layOut_59 : decode cX4_layOut 59 = .ok (.goto (-51), 3) := by decide +kernel
theorem dX4_layOut_62 : decode cX4_layOut 62 = .ok (.return_, 1) := by decide +kernel
theorem dX4_lineAsNumber_0 : decode cX4_lineAsNumber 0 = .ok (.iconst 0, 1) := by decide +kernel
theorem dX4_lineAsNumber_1 : decode cX4_lineAsNumber 1 = .ok (.istore_n 2, 1) := by decide +kernel
theorem dX4_lineAsNumber_2 : decode cX4_lineAsNumber 2 = .ok (.iconst 0, 1) := by decide +kernel
theorem dX4_lineAsNumber_3 : decode cX4_lineAsNumber 3 = .ok (.istore_n 3, 1) := by decide +kernel
theorem dX4_lineAsNumber_4 : decode cX4_lineAsNumber 4 = .ok (.iload_n 3, 1) := by decide +kernel
theorem dX4_lineAsNumber_5 : decode cX4_lineAsNumber 5 = .ok (.aload_n 1, 1) := by decide +kernel
theorem dX4_lineAsNumber_6 : decode cX4_lineAsNumber 6 = .ok (.getfield 31, 3) := by decide +kernel
theorem dX4_lineAsNumber_9 : decode cX4_lineAsNumber 9 = .ok (.if_icmp .ge 23, 3) := by decide +kernel
theorem dX4_lineAsNumber_12 : decode cX4_lineAsNumber 12 = .ok (.iload_n 2, 1) := by decide +kernel
theorem dX4_lineAsNumber_13 : decode cX4_lineAsNumber 13 = .ok (.bipush 10, 2) := by decide +kernel
theorem dX4_lineAsNumber_15 : decode cX4_lineAsNumber 15 = .ok (.imul, 1) := by decide +kernel
theorem dX4_lineAsNumber_16 : decode cX4_lineAsNumber 16 = .ok (.aload_n 0, 1) := by decide +kernel
theorem dX4_lineAsNumber_17 : decode cX4_lineAsNumber 17 = .ok (.getfield 18, 3) := by decide +kernel
theorem dX4_lineAsNumber_20 : decode cX4_lineAsNumber 20 = .ok (.iload_n 3, 1) := by decide +kernel
theorem dX4_lineAsNumber_21 : decode cX4_lineAsNumber 21 = .ok (.iaload, 1) := by decide +kernel
theorem dX4_lineAsNumber_22 : decode cX4_lineAsNumber 22 = .ok (.iadd, 1) := by decide +kernel
theorem dX4_lineAsNumber_23 : decode cX4_lineAsNumber 23 = .ok (.iconst 1, 1) := by decide +kernel
theorem dX4_lineAsNumber_24 : decode cX4_lineAsNumber 24 = .ok (.iadd, 1) := by decide +kernel
theorem dX4_lineAsNumber_25 : decode cX4_lineAsNumber 25 = .ok (.istore_n 2, 1) := by decide +kernel
theorem dX4_lineAsNumber_26 : decode cX4_lineAsNumber 26 = .ok (.iinc 3 1, 3) := by decide +kernel
theorem dX4_lineAsNumber_29 : decode cX4_lineAsNumber 29 = .ok (.goto (-25), 3) := by decide +kernel
theorem dX4_lineAsNumber_32 : decode cX4_lineAsNumber 32 = .ok (.iload_n 2, 1) := by decide +kernel
theorem dX4_lineAsNumber_33 : decode cX4_lineAsNumber 33 = .ok (.ireturn, 1) := by decide +kernel
theorem dX4_withoutLast_0 : decode cX4_withoutLast 0 = .ok (.iload_n 0, 1) := by decide +kernel
theorem dX4_withoutLast_1 : decode cX4_withoutLast 1 = .ok (.istore_n 2, 1) := by decide +kernel
theorem dX4_withoutLast_2 : decode cX4_withoutLast 2 = .ok (.iconst 0, 1) := by decide +kernel
theorem dX4_withoutLast_3 : decode cX4_withoutLast 3 = .ok (.istore_n 3, 1) := by decide +kernel
theorem dX4_withoutLast_4 : decode cX4_withoutLast 4 = .ok (.iload_n 3, 1) := by decide +kernel
theorem dX4_withoutLast_5 : decode cX4_withoutLast 5 = .ok (.iload_n 1, 1) := by decide +kernel
theorem dX4_withoutLast_6 : decode cX4_withoutLast 6 = .ok (.if_icmp .ge 14, 3) := by decide +kernel
theorem dX4_withoutLast_9 : decode cX4_withoutLast 9 = .ok (.iload_n 2, 1) := by decide +kernel
theorem dX4_withoutLast_10 : decode cX4_withoutLast 10 = .ok (.bipush 10, 2) := by decide +kernel
theorem dX4_withoutLast_12 : decode cX4_withoutLast 12 = .ok (.idiv, 1) := by decide +kernel
theorem dX4_withoutLast_13 : decode cX4_withoutLast 13 = .ok (.istore_n 2, 1) := by decide +kernel
theorem dX4_withoutLast_14 : decode cX4_withoutLast 14 = .ok (.iinc 3 1, 3) := by decide +kernel
theorem dX4_withoutLast_17 : decode cX4_withoutLast 17 = .ok (.goto (-13), 3) := by decide +kernel
theorem dX4_withoutLast_20 : decode cX4_withoutLast 20 = .ok (.iload_n 2, 1) := by decide +kernel
theorem dX4_withoutLast_21 : decode cX4_withoutLast 21 = .ok (.ireturn, 1) := by decide +kernel
theorem dX4_findPlace_0 : decode cX4_findPlace 0 = .ok (.iload_n 2, 1) := by decide +kernel
theorem dX4_findPlace_1 : decode cX4_findPlace 1 = .ok (.ifCond .lt 14, 3) := by decide +kernel
theorem dX4_findPlace_4 : decode cX4_findPlace 4 = .ok (.iload_n 2, 1) := by decide +kernel
theorem dX4_findPlace_5 : decode cX4_findPlace 5 = .ok (.aload_n 1, 1) := by decide +kernel
theorem dX4_findPlace_6 : decode cX4_findPlace 6 = .ok (.getfield 31, 3) := by decide +kernel
theorem dX4_findPlace_9 : decode cX4_findPlace 9 = .ok (.invokestatic 52, 3) := by decide +kernel
theorem dX4_findPlace_12 : decode cX4_findPlace 12 = .ok (.ifCond .eq 5, 3) := by decide +kernel
theorem dX4_findPlace_15 : decode cX4_findPlace 15 = .ok (.iconst (-1), 1) := by decide +kernel
theorem dX4_findPlace_16 : decode cX4_findPlace 16 = .ok (.ireturn, 1) := by decide +kernel
theorem dX4_findPlace_17 : decode cX4_findPlace 17 = .ok (.aload_n 0, 1) := by decide +kernel
theorem dX4_findPlace_18 : decode cX4_findPlace 18 = .ok (.aload_n 1, 1) := by decide +kernel
theorem dX4_findPlace_19 : decode cX4_findPlace 19 = .ok (.invokevirtual 56, 3) := by decide +kernel
theorem dX4_findPlace_22 : decode cX4_findPlace 22 = .ok (.pop, 1) := by decide +kernel
theorem dX4_findPlace_23 : decode cX4_findPlace 23 = .ok (.iconst 0, 1) := by decide +kernel
theorem dX4_findPlace_24 : decode cX4_findPlace 24 = .ok (.istore_n 3, 1) := by decide +kernel
theorem dX4_findPlace_25 : decode cX4_findPlace 25 = .ok (.iconst 0, 1) := by decide +kernel
theorem dX4_findPlace_26 : decode cX4_findPlace 26 = .ok (.istore 4, 2) := by decide +kernel
theorem dX4_findPlace_28 : decode cX4_findPlace 28 = .ok (.iconst 1, 1) := by decide +kernel
theorem dX4_findPlace_29 : decode cX4_findPlace 29 = .ok (.istore 5, 2) := by decide +kernel
theorem dX4_findPlace_31 : decode cX4_findPlace 31 = .ok (.iload 5, 2) := by decide +kernel
theorem dX4_findPlace_33 : decode cX4_findPlace 33 = .ok (.aload_n 1, 1) := by decide +kernel
theorem dX4_findPlace_34 : decode cX4_findPlace 34 = .ok (.getfield 31, 3) := by decide +kernel
theorem dX4_findPlace_37 : decode cX4_findPlace 37 = .ok (.if_icmp .gt 68, 3) := by decide +kernel
theorem dX4_findPlace_40 : decode cX4_findPlace 40 = .ok (.iload_n 2, 1) := by decide +kernel
theorem dX4_findPlace_41 : decode cX4_findPlace 41 = .ok (.aload_n 1, 1) := by decide +kernel
theorem dX4_findPlace_42 : decode cX4_findPlace 42 = .ok (.getfield 31, 3) := by decide +kernel
theorem dX4_findPlace_45 : decode cX4_findPlace 45 = .ok (.iload 5, 2) := by decide +kernel
theorem dX4_findPlace_47 : decode cX4_findPlace 47 = .ok (.isub, 1) := by decide +kernel
theorem dX4_findPlace_48 : decode cX4_findPlace 48 = .ok (.invokestatic 52, 3) := by decide +kernel
theorem dX4_findPlace_51 : decode cX4_findPlace 51 = .ok (.bipush 10, 2) := by decide +kernel
theorem dX4_findPlace_53 : decode cX4_findPlace 53 = .ok (.irem, 1) := by decide +kernel
theorem dX4_findPlace_54 : decode cX4_findPlace 54 = .ok (.iconst 1, 1) := by decide +kernel
theorem dX4_findPlace_55 : decode cX4_findPlace 55 = .ok (.isub, 1) := by decide +kernel
theorem dX4_findPlace_56 : decode cX4_findPlace 56 = .ok (.istore 6, 2) := by decide +kernel
theorem dX4_findPlace_58 : decode cX4_findPlace 58 = .ok (.aload_n 1, 1) := by decide +kernel
theorem dX4_findPlace_59 : decode cX4_findPlace 59 = .ok (.iload 6, 2) := by decide +kernel
theorem dX4_findPlace_61 : decode cX4_findPlace 61 = .ok (.invokevirtual 59, 3) := by decide +kernel
theorem dX4_findPlace_64 : decode cX4_findPlace 64 = .ok (.ifCond .eq 13, 3) := by decide +kernel
theorem dX4_findPlace_67 : decode cX4_findPlace 67 = .ok (.aload_n 1, 1) := by decide +kernel
theorem dX4_findPlace_68 : decode cX4_findPlace 68 = .ok (.iload_n 3, 1) := by decide +kernel
theorem dX4_findPlace_69 : decode cX4_findPlace 69 = .ok (.iload 6, 2) := by decide +kernel
theorem dX4_findPlace_71 : decode cX4_findPlace 71 = .ok (.invokevirtual 35, 3) := by decide +kernel
theorem dX4_findPlace_74 : decode cX4_findPlace 74 = .ok (.ifCond .ne 5, 3) := by decide +kernel
theorem dX4_findPlace_77 : decode cX4_findPlace 77 = .ok (.iconst (-1), 1) := by decide +kernel
theorem dX4_findPlace_78 : decode cX4_findPlace 78 = .ok (.ireturn, 1) := by decide +kernel
theorem dX4_findPlace_79 : decode cX4_findPlace 79 = .ok (.iload 4, 2) := by decide +kernel
theorem dX4_findPlace_81 : decode cX4_findPlace 81 = .ok (.aload_n 0, 1) := by decide +kernel
theorem dX4_findPlace_82 : decode cX4_findPlace 82 = .ok (.aload_n 1, 1) := by decide +kernel
theorem dX4_findPlace_83 : decode cX4_findPlace 83 = .ok (.iload_n 3, 1) := by decide +kernel
theorem dX4_findPlace_84 : decode cX4_findPlace 84 = .ok (.iload 6, 2) := by decide +kernel
theorem dX4_findPlace_86 : decode cX4_findPlace 86 = .ok (.invokevirtual 45, 3) := by decide +kernel
theorem dX4_findPlace_89 : decode cX4_findPlace 89 = .ok (.iadd, 1) := by decide +kernel
theorem dX4_findPlace_90 : decode cX4_findPlace 90 = .ok (.istore 4, 2) := by decide +kernel
theorem dX4_findPlace_92 : decode cX4_findPlace 92 = .ok (.iload_n 3, 1) := by decide +kernel
theorem dX4_findPlace_93 : decode cX4_findPlace 93 = .ok (.iconst 1, 1) := by decide +kernel
theorem dX4_findPlace_94 : decode cX4_findPlace 94 = .ok (.iload 6, 2) := by decide +kernel
theorem dX4_findPlace_96 : decode cX4_findPlace 96 = .ok (.ishl, 1) := by decide +kernel
theorem dX4_findPlace_97 : decode cX4_findPlace 97 = .ok (.ior, 1) := by decide +kernel
theorem dX4_findPlace_98 : decode cX4_findPlace 98 = .ok (.istore_n 3, 1) := by decide +kernel
theorem dX4_findPlace_99 : decode cX4_findPlace 99 = .ok (.iinc 5 1, 3) := by decide +kernel
theorem dX4_findPlace_102 : decode cX4_findPlace 102 = .ok (.goto (-71), 3) := by decide +kernel
theorem dX4_findPlace_105 : decode cX4_findPlace 105 = .ok (.iload 4, 2) := by decide +kernel
theorem dX4_findPlace_107 : decode cX4_findPlace 107 = .ok (.ireturn, 1) := by decide +kernel
theorem dX4_waysThrough_0 : decode cX4_waysThrough 0 = .ok (.aload_n 1, 1) := by decide +kernel
theorem dX4_waysThrough_1 : decode cX4_waysThrough 1 = .ok (.iload_n 2, 1) := by decide +kernel
theorem dX4_waysThrough_2 : decode cX4_waysThrough 2 = .ok (.iload_n 3, 1) := by decide +kernel
theorem dX4_waysThrough_3 : decode cX4_waysThrough 3 = .ok (.invokevirtual 35, 3) := by decide +kernel
theorem dX4_waysThrough_6 : decode cX4_waysThrough 6 = .ok (.ifCond .eq 32, 3) := by decide +kernel
theorem dX4_waysThrough_9 : decode cX4_waysThrough 9 = .ok (.aload_n 0, 1) := by decide +kernel
theorem dX4_waysThrough_10 : decode cX4_waysThrough 10 = .ok (.getfield 9, 3) := by decide +kernel
theorem dX4_waysThrough_13 : decode cX4_waysThrough 13 = .ok (.iload_n 2, 1) := by decide +kernel
theorem dX4_waysThrough_14 : decode cX4_waysThrough 14 = .ok (.iaload, 1) := by decide +kernel
theorem dX4_waysThrough_15 : decode cX4_waysThrough 15 = .ok (.ifCond .eq 23, 3) := by decide +kernel
theorem dX4_waysThrough_18 : decode cX4_waysThrough 18 = .ok (.aload_n 0, 1) := by decide +kernel
theorem dX4_waysThrough_19 : decode cX4_waysThrough 19 = .ok (.getfield 9, 3) := by decide +kernel
theorem dX4_waysThrough_22 : decode cX4_waysThrough 22 = .ok (.iload_n 2, 1) := by decide +kernel
theorem dX4_waysThrough_23 : decode cX4_waysThrough 23 = .ok (.iaload, 1) := by decide +kernel
theorem dX4_waysThrough_24 : decode cX4_waysThrough 24 = .ok (.aload_n 0, 1) := by decide +kernel
theorem dX4_waysThrough_25 : decode cX4_waysThrough 25 = .ok (.getfield 15, 3) := by decide +kernel
theorem dX4_waysThrough_28 : decode cX4_waysThrough 28 = .ok (.iload_n 2, 1) := by decide +kernel
theorem dX4_waysThrough_29 : decode cX4_waysThrough 29 = .ok (.iconst 1, 1) := by decide +kernel
theorem dX4_waysThrough_30 : decode cX4_waysThrough 30 = .ok (.iload_n 3, 1) := by decide +kernel
theorem dX4_waysThrough_31 : decode cX4_waysThrough 31 = .ok (.ishl, 1) := by decide +kernel
theorem dX4_waysThrough_32 : decode cX4_waysThrough 32 = .ok (.ior, 1) := by decide +kernel
theorem dX4_waysThrough_33 : decode cX4_waysThrough 33 = .ok (.iaload, 1) := by decide +kernel
theorem dX4_waysThrough_34 : decode cX4_waysThrough 34 = .ok (.imul, 1) := by decide +kernel
theorem dX4_waysThrough_35 : decode cX4_waysThrough 35 = .ok (.goto 4, 3) := by decide +kernel
theorem dX4_waysThrough_38 : decode cX4_waysThrough 38 = .ok (.iconst 0, 1) := by decide +kernel
theorem dX4_waysThrough_39 : decode cX4_waysThrough 39 = .ok (.ireturn, 1) := by decide +kernel
theorem dX4_countAhead_0 : decode cX4_countAhead 0 = .ok (.iconst 0, 1) := by decide +kernel
theorem dX4_countAhead_1 : decode cX4_countAhead 1 = .ok (.istore 4, 2) := by decide +kernel
theorem dX4_countAhead_3 : decode cX4_countAhead 3 = .ok (.iconst 0, 1) := by decide +kernel
theorem dX4_countAhead_4 : decode cX4_countAhead 4 = .ok (.istore 5, 2) := by decide +kernel
theorem dX4_countAhead_6 : decode cX4_countAhead 6 = .ok (.iload 5, 2) := by decide +kernel
theorem dX4_countAhead_8 : decode cX4_countAhead 8 = .ok (.aload_n 1, 1) := by decide +kernel
theorem dX4_countAhead_9 : decode cX4_countAhead 9 = .ok (.invokevirtual 21, 3) := by decide +kernel
theorem dX4_countAhead_12 : decode cX4_countAhead 12 = .ok (.if_icmp .ge 31, 3) := by decide +kernel
theorem dX4_countAhead_15 : decode cX4_countAhead 15 = .ok (.iload 5, 2) := by decide +kernel
theorem dX4_countAhead_17 : decode cX4_countAhead 17 = .ok (.iload_n 2, 1) := by decide +kernel
theorem dX4_countAhead_18 : decode cX4_countAhead 18 = .ok (.invokestatic 63, 3) := by decide +kernel
theorem dX4_countAhead_21 : decode cX4_countAhead 21 = .ok (.ifCond .eq 16, 3) := by decide +kernel
theorem dX4_countAhead_24 : decode cX4_countAhead 24 = .ok (.iload 4, 2) := by decide +kernel
theorem dX4_countAhead_26 : decode cX4_countAhead 26 = .ok (.aload_n 0, 1) := by decide +kernel
theorem dX4_countAhead_27 : decode cX4_countAhead 27 = .ok (.aload_n 1, 1) := by decide +kernel
theorem dX4_countAhead_28 : decode cX4_countAhead 28 = .ok (.iload 5, 2) := by decide +kernel
theorem dX4_countAhead_30 : decode cX4_countAhead 30 = .ok (.iload_n 3, 1) := by decide +kernel
theorem dX4_countAhead_31 : decode cX4_countAhead 31 = .ok (.invokevirtual 66, 3) := by decide +kernel
theorem dX4_countAhead_34 : decode cX4_countAhead 34 = .ok (.iadd, 1) := by decide +kernel
theorem dX4_countAhead_35 : decode cX4_countAhead 35 = .ok (.istore 4, 2) := by decide +kernel
theorem dX4_countAhead_37 : decode cX4_countAhead 37 = .ok (.iinc 5 1, 3) := by decide +kernel
theorem dX4_countAhead_40 : decode cX4_countAhead 40 = .ok (.goto (-34), 3) := by decide +kernel
theorem dX4_countAhead_43 : decode cX4_countAhead 43 = .ok (.iload 4, 2) := by decide +kernel
theorem dX4_countAhead_45 : decode cX4_countAhead 45 = .ok (.ireturn, 1) := by decide +kernel
theorem dX4_countAtPlace_0 : decode cX4_countAtPlace 0 = .ok (.iconst 0, 1) := by decide +kernel
theorem dX4_countAtPlace_1 : decode cX4_countAtPlace 1 = .ok (.istore 4, 2) := by decide +kernel
theorem dX4_countAtPlace_3 : decode cX4_countAtPlace 3 = .ok (.iconst 0, 1) := by decide +kernel
theorem dX4_countAtPlace_4 : decode cX4_countAtPlace 4 = .ok (.istore 5, 2) := by decide +kernel
theorem dX4_countAtPlace_6 : decode cX4_countAtPlace 6 = .ok (.iload 5, 2) := by decide +kernel
theorem dX4_countAtPlace_8 : decode cX4_countAtPlace 8 = .ok (.aload_n 1, 1) := by decide +kernel
theorem dX4_countAtPlace_9 : decode cX4_countAtPlace 9 = .ok (.invokevirtual 21, 3) := by decide +kernel
theorem dX4_countAtPlace_12 : decode cX4_countAtPlace 12 = .ok (.if_icmp .ge 31, 3) := by decide +kernel
theorem dX4_countAtPlace_15 : decode cX4_countAtPlace 15 = .ok (.iload 5, 2) := by decide +kernel
theorem dX4_countAtPlace_17 : decode cX4_countAtPlace 17 = .ok (.invokestatic 69, 3) := by decide +kernel
theorem dX4_countAtPlace_20 : decode cX4_countAtPlace 20 = .ok (.iload_n 3, 1) := by decide +kernel
theorem dX4_countAtPlace_21 : decode cX4_countAtPlace 21 = .ok (.if_icmp .ne 16, 3) := by decide +kernel
theorem dX4_countAtPlace_24 : decode cX4_countAtPlace 24 = .ok (.iload 4, 2) := by decide +kernel
theorem dX4_countAtPlace_26 : decode cX4_countAtPlace 26 = .ok (.aload_n 0, 1) := by decide +kernel
theorem dX4_countAtPlace_27 : decode cX4_countAtPlace 27 = .ok (.aload_n 1, 1) := by decide +kernel
theorem dX4_countAtPlace_28 : decode cX4_countAtPlace 28 = .ok (.iload 5, 2) := by decide +kernel
theorem dX4_countAtPlace_30 : decode cX4_countAtPlace 30 = .ok (.iload_n 2, 1) := by decide +kernel
theorem dX4_countAtPlace_31 : decode cX4_countAtPlace 31 = .ok (.invokevirtual 66, 3) := by decide +kernel
theorem dX4_countAtPlace_34 : decode cX4_countAtPlace 34 = .ok (.iadd, 1) := by decide +kernel
theorem dX4_countAtPlace_35 : decode cX4_countAtPlace 35 = .ok (.istore 4, 2) := by decide +kernel
theorem dX4_countAtPlace_37 : decode cX4_countAtPlace 37 = .ok (.iinc 5 1, 3) := by decide +kernel
theorem dX4_countAtPlace_40 : decode cX4_countAtPlace 40 = .ok (.goto (-34), 3) := by decide +kernel
theorem dX4_countAtPlace_43 : decode cX4_countAtPlace 43 = .ok (.iload 4, 2) := by decide +kernel
theorem dX4_countAtPlace_45 : decode cX4_countAtPlace 45 = .ok (.ireturn, 1) := by decide +kernel
theorem dX4_sumOfPlaces_0 : decode cX4_sumOfPlaces 0 = .ok (.iconst 0, 1) := by decide +kernel
theorem dX4_sumOfPlaces_1 : decode cX4_sumOfPlaces 1 = .ok (.istore_n 3, 1) := by decide +kernel
theorem dX4_sumOfPlaces_2 : decode cX4_sumOfPlaces 2 = .ok (.iconst 0, 1) := by decide +kernel
theorem dX4_sumOfPlaces_3 : decode cX4_sumOfPlaces 3 = .ok (.istore 4, 2) := by decide +kernel
theorem dX4_sumOfPlaces_5 : decode cX4_sumOfPlaces 5 = .ok (.iload 4, 2) := by decide +kernel
theorem dX4_sumOfPlaces_7 : decode cX4_sumOfPlaces 7 = .ok (.aload_n 1, 1) := by decide +kernel
theorem dX4_sumOfPlaces_8 : decode cX4_sumOfPlaces 8 = .ok (.invokevirtual 21, 3) := by decide +kernel
theorem dX4_sumOfPlaces_11 : decode cX4_sumOfPlaces 11 = .ok (.if_icmp .ge 26, 3) := by decide +kernel
theorem dX4_sumOfPlaces_14 : decode cX4_sumOfPlaces 14 = .ok (.iload_n 3, 1) := by decide +kernel
theorem dX4_sumOfPlaces_15 : decode cX4_sumOfPlaces 15 = .ok (.iload 4, 2) := by decide +kernel
theorem dX4_sumOfPlaces_17 : decode cX4_sumOfPlaces 17 = .ok (.invokestatic 69, 3) := by decide +kernel
theorem dX4_sumOfPlaces_20 : decode cX4_sumOfPlaces 20 = .ok (.aload_n 0, 1) := by decide +kernel
theorem dX4_sumOfPlaces_21 : decode cX4_sumOfPlaces 21 = .ok (.aload_n 1, 1) := by decide +kernel
theorem dX4_sumOfPlaces_22 : decode cX4_sumOfPlaces 22 = .ok (.iload 4, 2) := by decide +kernel
theorem dX4_sumOfPlaces_24 : decode cX4_sumOfPlaces 24 = .ok (.iload_n 2, 1) := by decide +kernel
theorem dX4_sumOfPlaces_25 : decode cX4_sumOfPlaces 25 = .ok (.invokevirtual 66, 3) := by decide +kernel
theorem dX4_sumOfPlaces_28 : decode cX4_sumOfPlaces 28 = .ok (.imul, 1) := by decide +kernel
theorem dX4_sumOfPlaces_29 : decode cX4_sumOfPlaces 29 = .ok (.iadd, 1) := by decide +kernel
theorem dX4_sumOfPlaces_30 : decode cX4_sumOfPlaces 30 = .ok (.istore_n 3, 1) := by decide +kernel
theorem dX4_sumOfPlaces_31 : decode cX4_sumOfPlaces 31 = .ok (.iinc 4 1, 3) := by decide +kernel
theorem dX4_sumOfPlaces_34 : decode cX4_sumOfPlaces 34 = .ok (.goto (-29), 3) := by decide +kernel
theorem dX4_sumOfPlaces_37 : decode cX4_sumOfPlaces 37 = .ok (.iload_n 3, 1) := by decide +kernel
theorem dX4_sumOfPlaces_38 : decode cX4_sumOfPlaces 38 = .ok (.ireturn, 1) := by decide +kernel
theorem dX5_isOrdered_0 : decode cX5_isOrdered 0 = .ok (.iconst 0, 1) := by decide +kernel
theorem dX5_isOrdered_1 : decode cX5_isOrdered 1 = .ok (.istore_n 1, 1) := by decide +kernel
theorem dX5_isOrdered_2 : decode cX5_isOrdered 2 = .ok (.iload_n 1, 1) := by decide +kernel
theorem dX5_isOrdered_3 : decode cX5_isOrdered 3 = .ok (.aload_n 0, 1) := by decide +kernel
theorem dX5_isOrdered_4 : decode cX5_isOrdered 4 = .ok (.getfield 84, 3) := by decide +kernel
theorem dX5_isOrdered_7 : decode cX5_isOrdered 7 = .ok (.if_icmp .ge 42, 3) := by decide +kernel
theorem dX5_isOrdered_10 : decode cX5_isOrdered 10 = .ok (.aload_n 0, 1) := by decide +kernel
theorem dX5_isOrdered_11 : decode cX5_isOrdered 11 = .ok (.iload_n 1, 1) := by decide +kernel
theorem dX5_isOrdered_12 : decode cX5_isOrdered 12 = .ok (.iload_n 1, 1) := by decide +kernel
theorem dX5_isOrdered_13 : decode cX5_isOrdered 13 = .ok (.invokevirtual 88, 3) := by decide +kernel
theorem dX5_isOrdered_16 : decode cX5_isOrdered 16 = .ok (.ifCond .ne 25, 3) := by decide +kernel
theorem dX5_isOrdered_19 : decode cX5_isOrdered 19 = .ok (.aload_n 0, 1) := by decide +kernel
theorem dX5_isOrdered_20 : decode cX5_isOrdered 20 = .ok (.aload_n 0, 1) := by decide +kernel
theorem dX5_isOrdered_21 : decode cX5_isOrdered 21 = .ok (.getfield 92, 3) := by decide +kernel
theorem dX5_isOrdered_24 : decode cX5_isOrdered 24 = .ok (.iload_n 1, 1) := by decide +kernel
theorem dX5_isOrdered_25 : decode cX5_isOrdered 25 = .ok (.iaload, 1) := by decide +kernel
theorem dX5_isOrdered_26 : decode cX5_isOrdered 26 = .ok (.invokevirtual 95, 3) := by decide +kernel
theorem dX5_isOrdered_29 : decode cX5_isOrdered 29 = .ok (.aload_n 0, 1) := by decide +kernel
theorem dX5_isOrdered_30 : decode cX5_isOrdered 30 = .ok (.getfield 92, 3) := by decide +kernel
theorem dX5_isOrdered_33 : decode cX5_isOrdered 33 = .ok (.iload_n 1, 1) := by decide +kernel
theorem dX5_isOrdered_34 : decode cX5_isOrdered 34 = .ok (.iaload, 1) := by decide +kernel
theorem dX5_isOrdered_35 : decode cX5_isOrdered 35 = .ok (.invokestatic 99, 3) := by decide +kernel
theorem dX5_isOrdered_38 : decode cX5_isOrdered 38 = .ok (.ifCond .ne 5, 3) := by decide +kernel
theorem dX5_isOrdered_41 : decode cX5_isOrdered 41 = .ok (.iconst 0, 1) := by decide +kernel
theorem dX5_isOrdered_42 : decode cX5_isOrdered 42 = .ok (.ireturn, 1) := by decide +kernel
theorem dX5_isOrdered_43 : decode cX5_isOrdered 43 = .ok (.iinc 1 1, 3) := by decide +kernel
theorem dX5_isOrdered_46 : decode cX5_isOrdered 46 = .ok (.goto (-44), 3) := by decide +kernel
theorem dX5_isOrdered_49 : decode cX5_isOrdered 49 = .ok (.iconst 1, 1) := by decide +kernel
theorem dX5_isOrdered_50 : decode cX5_isOrdered 50 = .ok (.ireturn, 1) := by decide +kernel
theorem dX5_linksLeastFor_0 : decode cX5_linksLeastFor 0 = .ok (.aload_n 0, 1) := by decide +kernel
theorem dX5_linksLeastFor_1 : decode cX5_linksLeastFor 1 = .ok (.getfield 12, 3) := by decide +kernel
theorem dX5_linksLeastFor_4 : decode cX5_linksLeastFor 4 = .ok (.aload_n 1, 1) := by decide +kernel
theorem dX5_linksLeastFor_5 : decode cX5_linksLeastFor 5 = .ok (.invokevirtual 106, 3) := by decide +kernel
theorem dX5_linksLeastFor_8 : decode cX5_linksLeastFor 8 = .ok (.aload_n 0, 1) := by decide +kernel
theorem dX5_linksLeastFor_9 : decode cX5_linksLeastFor 9 = .ok (.getfield 12, 3) := by decide +kernel
theorem dX5_linksLeastFor_12 : decode cX5_linksLeastFor 12 = .ok (.iload_n 2, 1) := by decide +kernel
theorem dX5_linksLeastFor_13 : decode cX5_linksLeastFor 13 = .ok (.iload_n 3, 1) := by decide +kernel
theorem dX5_linksLeastFor_14 : decode cX5_linksLeastFor 14 = .ok (.invokevirtual 110, 3) := by decide +kernel
theorem dX5_linksLeastFor_17 : decode cX5_linksLeastFor 17 = .ok (.bipush (-9), 2) := by decide +kernel
theorem dX5_linksLeastFor_19 : decode cX5_linksLeastFor 19 = .ok (.if_icmp .ne 7, 3) := by decide +kernel
theorem dX5_linksLeastFor_22 : decode cX5_linksLeastFor 22 = .ok (.iconst 1, 1) := by decide +kernel
theorem dX5_linksLeastFor_23 : decode cX5_linksLeastFor 23 = .ok (.goto 4, 3) := by decide +kernel
theorem dX5_linksLeastFor_26 : decode cX5_linksLeastFor 26 = .ok (.iconst 0, 1) := by decide +kernel
theorem dX5_linksLeastFor_27 : decode cX5_linksLeastFor 27 = .ok (.istore 4, 2) := by decide +kernel
theorem dX5_linksLeastFor_29 : decode cX5_linksLeastFor 29 = .ok (.iload 4, 2) := by decide +kernel
theorem dX5_linksLeastFor_31 : decode cX5_linksLeastFor 31 = .ok (.iload_n 2, 1) := by decide +kernel
theorem dX5_linksLeastFor_32 : decode cX5_linksLeastFor 32 = .ok (.iload_n 3, 1) := by decide +kernel
theorem dX5_linksLeastFor_33 : decode cX5_linksLeastFor 33 = .ok (.if_icmp .eq 12, 3) := by decide +kernel
theorem dX5_linksLeastFor_36 : decode cX5_linksLeastFor 36 = .ok (.aload_n 1, 1) := by decide +kernel
theorem dX5_linksLeastFor_37 : decode cX5_linksLeastFor 37 = .ok (.iload_n 3, 1) := by decide +kernel
theorem dX5_linksLeastFor_38 : decode cX5_linksLeastFor 38 = .ok (.iload_n 2, 1) := by decide +kernel
theorem dX5_linksLeastFor_39 : decode cX5_linksLeastFor 39 = .ok (.invokevirtual 88, 3) := by decide +kernel
theorem dX5_linksLeastFor_42 : decode cX5_linksLeastFor 42 = .ok (.ifCond .eq 7, 3) := by decide +kernel
theorem dX5_linksLeastFor_45 : decode cX5_linksLeastFor 45 = .ok (.iconst 1, 1) := by decide +kernel
theorem dX5_linksLeastFor_46 : decode cX5_linksLeastFor 46 = .ok (.goto 4, 3) := by decide +kernel
theorem dX5_linksLeastFor_49 : decode cX5_linksLeastFor 49 = .ok (.iconst 0, 1) := by decide +kernel
theorem dX5_linksLeastFor_50 : decode cX5_linksLeastFor 50 = .ok (.if_icmp .eq 5, 3) := by decide +kernel
theorem dX5_linksLeastFor_53 : decode cX5_linksLeastFor 53 = .ok (.iconst 0, 1) := by decide +kernel
theorem dX5_linksLeastFor_54 : decode cX5_linksLeastFor 54 = .ok (.ireturn, 1) := by decide +kernel
theorem dX5_linksLeastFor_55 : decode cX5_linksLeastFor 55 = .ok (.iload 4, 2) := by decide +kernel
theorem dX5_linksLeastFor_57 : decode cX5_linksLeastFor 57 = .ok (.ifCond .eq 12, 3) := by decide +kernel
theorem dX5_linksLeastFor_60 : decode cX5_linksLeastFor 60 = .ok (.aload_n 0, 1) := by decide +kernel
theorem dX5_linksLeastFor_61 : decode cX5_linksLeastFor 61 = .ok (.getfield 12, 3) := by decide +kernel
theorem dX5_linksLeastFor_64 : decode cX5_linksLeastFor 64 = .ok (.aload_n 1, 1) := by decide +kernel
theorem dX5_linksLeastFor_65 : decode cX5_linksLeastFor 65 = .ok (.invokevirtual 114, 3) := by decide +kernel
theorem dX5_linksLeastFor_68 : decode cX5_linksLeastFor 68 = .ok (.ireturn, 1) := by decide +kernel
theorem dX5_linksLeastFor_69 : decode cX5_linksLeastFor 69 = .ok (.aload_n 1, 1) := by decide +kernel
theorem dX5_linksLeastFor_70 : decode cX5_linksLeastFor 70 = .ok (.getfield 92, 3) := by decide +kernel
theorem dX5_linksLeastFor_73 : decode cX5_linksLeastFor 73 = .ok (.iload_n 2, 1) := by decide +kernel
theorem dX5_linksLeastFor_74 : decode cX5_linksLeastFor 74 = .ok (.iaload, 1) := by decide +kernel
theorem dX5_linksLeastFor_75 : decode cX5_linksLeastFor 75 = .ok (.iconst 1, 1) := by decide +kernel
theorem dX5_linksLeastFor_76 : decode cX5_linksLeastFor 76 = .ok (.iload_n 2, 1) := by decide +kernel
theorem dX5_linksLeastFor_77 : decode cX5_linksLeastFor 77 = .ok (.ishl, 1) := by decide +kernel
theorem dX5_linksLeastFor_78 : decode cX5_linksLeastFor 78 = .ok (.ior, 1) := by decide +kernel
theorem dX5_linksLeastFor_79 : decode cX5_linksLeastFor 79 = .ok (.istore 5, 2) := by decide +kernel
theorem dX5_linksLeastFor_81 : decode cX5_linksLeastFor 81 = .ok (.iconst 0, 1) := by decide +kernel
theorem dX5_linksLeastFor_82 : decode cX5_linksLeastFor 82 = .ok (.istore 6, 2) := by decide +kernel
theorem dX5_linksLeastFor_84 : decode cX5_linksLeastFor 84 = .ok (.iload 6, 2) := by decide +kernel
theorem dX5_linksLeastFor_86 : decode cX5_linksLeastFor 86 = .ok (.aload_n 1, 1) := by decide +kernel
theorem dX5_linksLeastFor_87 : decode cX5_linksLeastFor 87 = .ok (.getfield 84, 3) := by decide +kernel
theorem dX5_linksLeastFor_90 : decode cX5_linksLeastFor 90 = .ok (.if_icmp .ge 72, 3) := by decide +kernel
theorem dX5_linksLeastFor_93 : decode cX5_linksLeastFor 93 = .ok (.iload 6, 2) := by decide +kernel
theorem dX5_linksLeastFor_95 : decode cX5_linksLeastFor 95 = .ok (.iload_n 3, 1) := by decide +kernel
theorem dX5_linksLeastFor_96 : decode cX5_linksLeastFor 96 = .ok (.if_icmp .eq 13, 3) := by decide +kernel
theorem dX5_linksLeastFor_99 : decode cX5_linksLeastFor 99 = .ok (.aload_n 1, 1) := by decide +kernel
theorem dX5_linksLeastFor_100 : decode cX5_linksLeastFor 100 = .ok (.iload_n 3, 1) := by decide +kernel
theorem dX5_linksLeastFor_101 : decode cX5_linksLeastFor 101 = .ok (.iload 6, 2) := by decide +kernel
theorem dX5_linksLeastFor_103 : decode cX5_linksLeastFor 103 = .ok (.invokevirtual 88, 3) := by decide +kernel
theorem dX5_linksLeastFor_106 : decode cX5_linksLeastFor 106 = .ok (.ifCond .eq 7, 3) := by decide +kernel
theorem dX5_linksLeastFor_109 : decode cX5_linksLeastFor 109 = .ok (.iconst 1, 1) := by decide +kernel
theorem dX5_linksLeastFor_110 : decode cX5_linksLeastFor 110 = .ok (.goto 4, 3) := by decide +kernel
theorem dX5_linksLeastFor_113 : decode cX5_linksLeastFor 113 = .ok (.iconst 0, 1) := by decide +kernel
theorem dX5_linksLeastFor_114 : decode cX5_linksLeastFor 114 = .ok (.istore 7, 2) := by decide +kernel
theorem dX5_linksLeastFor_116 : decode cX5_linksLeastFor 116 = .ok (.aload_n 0, 1) := by decide +kernel
theorem dX5_linksLeastFor_117 : decode cX5_linksLeastFor 117 = .ok (.getfield 12, 3) := by decide +kernel
theorem dX5_linksLeastFor_120 : decode cX5_linksLeastFor 120 = .ok (.getfield 92, 3) := by decide +kernel
theorem dX5_linksLeastFor_123 : decode cX5_linksLeastFor 123 = .ok (.iload 6, 2) := by decide +kernel
theorem dX5_linksLeastFor_125 : decode cX5_linksLeastFor 125 = .ok (.iaload, 1) := by decide +kernel
theorem dX5_linksLeastFor_126 : decode cX5_linksLeastFor 126 = .ok (.iload 7, 2) := by decide +kernel
theorem dX5_linksLeastFor_128 : decode cX5_linksLeastFor 128 = .ok (.ifCond .eq 16, 3) := by decide +kernel
theorem dX5_linksLeastFor_131 : decode cX5_linksLeastFor 131 = .ok (.aload_n 1, 1) := by decide +kernel
theorem dX5_linksLeastFor_132 : decode cX5_linksLeastFor 132 = .ok (.getfield 92, 3) := by decide +kernel
theorem dX5_linksLeastFor_135 : decode cX5_linksLeastFor 135 = .ok (.iload 6, 2) := by decide +kernel
theorem dX5_linksLeastFor_137 : decode cX5_linksLeastFor 137 = .ok (.iaload, 1) := by decide +kernel
theorem dX5_linksLeastFor_138 : decode cX5_linksLeastFor 138 = .ok (.iload 5, 2) := by decide +kernel
theorem dX5_linksLeastFor_140 : decode cX5_linksLeastFor 140 = .ok (.ior, 1) := by decide +kernel
theorem dX5_linksLeastFor_141 : decode cX5_linksLeastFor 141 = .ok (.goto 10, 3) := by decide +kernel
theorem dX5_linksLeastFor_144 : decode cX5_linksLeastFor 144 = .ok (.aload_n 1, 1) := by decide +kernel
theorem dX5_linksLeastFor_145 : decode cX5_linksLeastFor 145 = .ok (.getfield 92, 3) := by decide +kernel
theorem dX5_linksLeastFor_148 : decode cX5_linksLeastFor 148 = .ok (.iload 6, 2) := by decide +kernel
theorem dX5_linksLeastFor_150 : decode cX5_linksLeastFor 150 = .ok (.iaload, 1) := by decide +kernel
theorem dX5_linksLeastFor_151 : decode cX5_linksLeastFor 151 = .ok (.if_icmp .eq 5, 3) := by decide +kernel
theorem dX5_linksLeastFor_154 : decode cX5_linksLeastFor 154 = .ok (.iconst 0, 1) := by decide +kernel
theorem dX5_linksLeastFor_155 : decode cX5_linksLeastFor 155 = .ok (.ireturn, 1) := by decide +kernel
theorem dX5_linksLeastFor_156 : decode cX5_linksLeastFor 156 = .ok (.iinc 6 1, 3) := by decide +kernel
theorem dX5_linksLeastFor_159 : decode cX5_linksLeastFor 159 = .ok (.goto (-75), 3) := by decide +kernel
theorem dX5_linksLeastFor_162 : decode cX5_linksLeastFor 162 = .ok (.aload_n 0, 1) := by decide +kernel
theorem dX5_linksLeastFor_163 : decode cX5_linksLeastFor 163 = .ok (.getfield 12, 3) := by decide +kernel
theorem dX5_linksLeastFor_166 : decode cX5_linksLeastFor 166 = .ok (.invokestatic 49, 3) := by decide +kernel
theorem dX5_linksLeastFor_169 : decode cX5_linksLeastFor 169 = .ok (.ireturn, 1) := by decide +kernel
theorem dX5_linksLeast_0 : decode cX5_linksLeast 0 = .ok (.iconst 0, 1) := by decide +kernel
theorem dX5_linksLeast_1 : decode cX5_linksLeast 1 = .ok (.istore_n 2, 1) := by decide +kernel
theorem dX5_linksLeast_2 : decode cX5_linksLeast 2 = .ok (.iload_n 2, 1) := by decide +kernel
theorem dX5_linksLeast_3 : decode cX5_linksLeast 3 = .ok (.aload_n 1, 1) := by decide +kernel
theorem dX5_linksLeast_4 : decode cX5_linksLeast 4 = .ok (.getfield 84, 3) := by decide +kernel
theorem dX5_linksLeast_7 : decode cX5_linksLeast 7 = .ok (.if_icmp .ge 37, 3) := by decide +kernel
theorem dX5_linksLeast_10 : decode cX5_linksLeast 10 = .ok (.iconst 0, 1) := by decide +kernel
theorem dX5_linksLeast_11 : decode cX5_linksLeast 11 = .ok (.istore_n 3, 1) := by decide +kernel
theorem dX5_linksLeast_12 : decode cX5_linksLeast 12 = .ok (.iload_n 3, 1) := by decide +kernel
theorem dX5_linksLeast_13 : decode cX5_linksLeast 13 = .ok (.aload_n 1, 1) := by decide +kernel
theorem dX5_linksLeast_14 : decode cX5_linksLeast 14 = .ok (.getfield 84, 3) := by decide +kernel
theorem dX5_linksLeast_17 : decode cX5_linksLeast 17 = .ok (.if_icmp .ge 21, 3) := by decide +kernel
theorem dX5_linksLeast_20 : decode cX5_linksLeast 20 = .ok (.aload_n 0, 1) := by decide +kernel
theorem dX5_linksLeast_21 : decode cX5_linksLeast 21 = .ok (.aload_n 1, 1) := by decide +kernel
theorem dX5_linksLeast_22 : decode cX5_linksLeast 22 = .ok (.iload_n 2, 1) := by decide +kernel
theorem dX5_linksLeast_23 : decode cX5_linksLeast 23 = .ok (.iload_n 3, 1) := by decide +kernel
theorem dX5_linksLeast_24 : decode cX5_linksLeast 24 = .ok (.invokevirtual 102, 3) := by decide +kernel
theorem dX5_linksLeast_27 : decode cX5_linksLeast 27 = .ok (.ifCond .ne 5, 3) := by decide +kernel
theorem dX5_linksLeast_30 : decode cX5_linksLeast 30 = .ok (.iconst 0, 1) := by decide +kernel
theorem dX5_linksLeast_31 : decode cX5_linksLeast 31 = .ok (.ireturn, 1) := by decide +kernel
theorem dX5_linksLeast_32 : decode cX5_linksLeast 32 = .ok (.iinc 3 1, 3) := by decide +kernel
theorem dX5_linksLeast_35 : decode cX5_linksLeast 35 = .ok (.goto (-23), 3) := by decide +kernel
theorem dX5_linksLeast_38 : decode cX5_linksLeast 38 = .ok (.iinc 2 1, 3) := by decide +kernel
theorem dX5_linksLeast_41 : decode cX5_linksLeast 41 = .ok (.goto (-39), 3) := by decide +kernel
theorem dX5_linksLeast_44 : decode cX5_linksLeast 44 = .ok (.iconst 1, 1) := by decide +kernel
theorem dX5_linksLeast_45 : decode cX5_linksLeast 45 = .ok (.ireturn, 1) := by decide +kernel
theorem dX5_looseComesBack_0 : decode cX5_looseComesBack 0 = .ok (.iconst 0, 1) := by decide +kernel
theorem dX5_looseComesBack_1 : decode cX5_looseComesBack 1 = .ok (.istore_n 2, 1) := by decide +kernel
theorem dX5_looseComesBack_2 : decode cX5_looseComesBack 2 = .ok (.iload_n 2, 1) := by decide +kernel
theorem dX5_looseComesBack_3 : decode cX5_looseComesBack 3 = .ok (.aload_n 1, 1) := by decide +kernel
theorem dX5_looseComesBack_4 : decode cX5_looseComesBack 4 = .ok (.getfield 84, 3) := by decide +kernel
theorem dX5_looseComesBack_7 : decode cX5_looseComesBack 7 = .ok (.if_icmp .ge 87, 3) := by decide +kernel
theorem dX5_looseComesBack_10 : decode cX5_looseComesBack 10 = .ok (.iconst 0, 1) := by decide +kernel
theorem dX5_looseComesBack_11 : decode cX5_looseComesBack 11 = .ok (.istore_n 3, 1) := by decide +kernel
theorem dX5_looseComesBack_12 : decode cX5_looseComesBack 12 = .ok (.iload_n 3, 1) := by decide +kernel
theorem dX5_looseComesBack_13 : decode cX5_looseComesBack 13 = .ok (.aload_n 1, 1) := by decide +kernel
theorem dX5_looseComesBack_14 : decode cX5_looseComesBack 14 = .ok (.getfield 84, 3) := by decide +kernel
theorem dX5_looseComesBack_17 : decode cX5_looseComesBack 17 = .ok (.if_icmp .ge 71, 3) := by decide +kernel
theorem dX5_looseComesBack_20 : decode cX5_looseComesBack 20 = .ok (.aload_n 1, 1) := by decide +kernel
theorem dX5_looseComesBack_21 : decode cX5_looseComesBack 21 = .ok (.iload_n 2, 1) := by decide +kernel
theorem dX5_looseComesBack_22 : decode cX5_looseComesBack 22 = .ok (.iload_n 3, 1) := by decide +kernel
theorem dX5_looseComesBack_23 : decode cX5_looseComesBack 23 = .ok (.invokevirtual 117, 3) := by decide +kernel
theorem dX5_looseComesBack_26 : decode cX5_looseComesBack 26 = .ok (.ifCond .eq 56, 3) := by decide +kernel
theorem dX5_looseComesBack_29 : decode cX5_looseComesBack 29 = .ok (.aload_n 0, 1) := by decide +kernel
theorem dX5_looseComesBack_30 : decode cX5_looseComesBack 30 = .ok (.getfield 12, 3) := by decide +kernel
theorem dX5_looseComesBack_33 : decode cX5_looseComesBack 33 = .ok (.aload_n 1, 1) := by decide +kernel
theorem dX5_looseComesBack_34 : decode cX5_looseComesBack 34 = .ok (.invokevirtual 106, 3) := by decide +kernel
theorem dX5_looseComesBack_37 : decode cX5_looseComesBack 37 = .ok (.aload_n 0, 1) := by decide +kernel
theorem dX5_looseComesBack_38 : decode cX5_looseComesBack 38 = .ok (.getfield 12, 3) := by decide +kernel
theorem dX5_looseComesBack_41 : decode cX5_looseComesBack 41 = .ok (.iload_n 2, 1) := by decide +kernel
theorem dX5_looseComesBack_42 : decode cX5_looseComesBack 42 = .ok (.iload_n 3, 1) := by decide +kernel
theorem dX5_looseComesBack_43 : decode cX5_looseComesBack 43 = .ok (.invokevirtual 120, 3) := by decide +kernel
theorem dX5_looseComesBack_46 : decode cX5_looseComesBack 46 = .ok (.aload_n 0, 1) := by decide +kernel
theorem dX5_looseComesBack_47 : decode cX5_looseComesBack 47 = .ok (.getfield 12, 3) := by decide +kernel
theorem dX5_looseComesBack_50 : decode cX5_looseComesBack 50 = .ok (.invokestatic 49, 3) := by decide +kernel
theorem dX5_looseComesBack_53 : decode cX5_looseComesBack 53 = .ok (.ifCond .eq 27, 3) := by decide +kernel
theorem dX5_looseComesBack_56 : decode cX5_looseComesBack 56 = .ok (.aload_n 0, 1) := by decide +kernel
theorem dX5_looseComesBack_57 : decode cX5_looseComesBack 57 = .ok (.getfield 12, 3) := by decide +kernel
theorem dX5_looseComesBack_60 : decode cX5_looseComesBack 60 = .ok (.iload_n 2, 1) := by decide +kernel
theorem dX5_looseComesBack_61 : decode cX5_looseComesBack 61 = .ok (.iload_n 3, 1) := by decide +kernel
theorem dX5_looseComesBack_62 : decode cX5_looseComesBack 62 = .ok (.invokevirtual 110, 3) := by decide +kernel
theorem dX5_looseComesBack_65 : decode cX5_looseComesBack 65 = .ok (.iconst 1, 1) := by decide +kernel
theorem dX5_looseComesBack_66 : decode cX5_looseComesBack 66 = .ok (.if_icmp .ne 14, 3) := by decide +kernel
theorem dX5_looseComesBack_69 : decode cX5_looseComesBack 69 = .ok (.aload_n 0, 1) := by decide +kernel
theorem dX5_looseComesBack_70 : decode cX5_looseComesBack 70 = .ok (.getfield 12, 3) := by decide +kernel
theorem dX5_looseComesBack_73 : decode cX5_looseComesBack 73 = .ok (.aload_n 1, 1) := by decide +kernel
theorem dX5_looseComesBack_74 : decode cX5_looseComesBack 74 = .ok (.invokevirtual 114, 3) := by decide +kernel
theorem dX5_looseComesBack_77 : decode cX5_looseComesBack 77 = .ok (.ifCond .ne 5, 3) := by decide +kernel
theorem dX5_looseComesBack_80 : decode cX5_looseComesBack 80 = .ok (.iconst 0, 1) := by decide +kernel
theorem dX5_looseComesBack_81 : decode cX5_looseComesBack 81 = .ok (.ireturn, 1) := by decide +kernel
theorem dX5_looseComesBack_82 : decode cX5_looseComesBack 82 = .ok (.iinc 3 1, 3) := by decide +kernel
theorem dX5_looseComesBack_85 : decode cX5_looseComesBack 85 = .ok (.goto (-73), 3) := by decide +kernel
theorem dX5_looseComesBack_88 : decode cX5_looseComesBack 88 = .ok (.iinc 2 1, 3) := by decide +kernel
theorem dX5_looseComesBack_91 : decode cX5_looseComesBack 91 = .ok (.goto (-89), 3) := by decide +kernel
theorem dX5_looseComesBack_94 : decode cX5_looseComesBack 94 = .ok (.iconst 1, 1) := by decide +kernel
theorem dX5_looseComesBack_95 : decode cX5_looseComesBack 95 = .ok (.ireturn, 1) := by decide +kernel
theorem dX5_growsByGreatest_0 : decode cX5_growsByGreatest 0 = .ok (.aload_n 1, 1) := by decide +kernel
theorem dX5_growsByGreatest_1 : decode cX5_growsByGreatest 1 = .ok (.aload_n 1, 1) := by decide +kernel
theorem dX5_growsByGreatest_2 : decode cX5_growsByGreatest 2 = .ok (.invokevirtual 124, 3) := by decide +kernel
theorem dX5_growsByGreatest_5 : decode cX5_growsByGreatest 5 = .ok (.invokevirtual 128, 3) := by decide +kernel
theorem dX5_growsByGreatest_8 : decode cX5_growsByGreatest 8 = .ok (.istore_n 2, 1) := by decide +kernel
theorem dX5_growsByGreatest_9 : decode cX5_growsByGreatest 9 = .ok (.aload_n 1, 1) := by decide +kernel
theorem dX5_growsByGreatest_10 : decode cX5_growsByGreatest 10 = .ok (.getfield 84, 3) := by decide +kernel
theorem dX5_growsByGreatest_13 : decode cX5_growsByGreatest 13 = .ok (.ifCond .ne 7, 3) := by decide +kernel
theorem dX5_growsByGreatest_16 : decode cX5_growsByGreatest 16 = .ok (.iconst 1, 1) := by decide +kernel
theorem dX5_growsByGreatest_17 : decode cX5_growsByGreatest 17 = .ok (.goto 4, 3) := by decide +kernel
theorem dX5_growsByGreatest_20 : decode cX5_growsByGreatest 20 = .ok (.iconst 0, 1) := by decide +kernel
theorem dX5_growsByGreatest_21 : decode cX5_growsByGreatest 21 = .ok (.istore_n 3, 1) := by decide +kernel
theorem dX5_growsByGreatest_22 : decode cX5_growsByGreatest 22 = .ok (.iconst 0, 1) := by decide +kernel
theorem dX5_growsByGreatest_23 : decode cX5_growsByGreatest 23 = .ok (.istore 4, 2) := by decide +kernel
theorem dX5_growsByGreatest_25 : decode cX5_growsByGreatest 25 = .ok (.iload 4, 2) := by decide +kernel
theorem dX5_growsByGreatest_27 : decode cX5_growsByGreatest 27 = .ok (.aload_n 1, 1) := by decide +kernel
theorem dX5_growsByGreatest_28 : decode cX5_growsByGreatest 28 = .ok (.getfield 84, 3) := by decide +kernel
theorem dX5_growsByGreatest_31 : decode cX5_growsByGreatest 31 = .ok (.if_icmp .ge 58, 3) := by decide +kernel
theorem dX5_growsByGreatest_34 : decode cX5_growsByGreatest 34 = .ok (.iload_n 2, 1) := by decide +kernel
theorem dX5_growsByGreatest_35 : decode cX5_growsByGreatest 35 = .ok (.iload 4, 2) := by decide +kernel
theorem dX5_growsByGreatest_37 : decode cX5_growsByGreatest 37 = .ok (.invokestatic 131, 3) := by decide +kernel
theorem dX5_growsByGreatest_40 : decode cX5_growsByGreatest 40 = .ok (.ifCond .eq 43, 3) := by decide +kernel
theorem dX5_growsByGreatest_43 : decode cX5_growsByGreatest 43 = .ok (.aload_n 0, 1) := by decide +kernel
theorem dX5_growsByGreatest_44 : decode cX5_growsByGreatest 44 = .ok (.getfield 12, 3) := by decide +kernel
theorem dX5_growsByGreatest_47 : decode cX5_growsByGreatest 47 = .ok (.aload_n 1, 1) := by decide +kernel
theorem dX5_growsByGreatest_48 : decode cX5_growsByGreatest 48 = .ok (.invokevirtual 106, 3) := by decide +kernel
theorem dX5_growsByGreatest_51 : decode cX5_growsByGreatest 51 = .ok (.aload_n 0, 1) := by decide +kernel
theorem dX5_growsByGreatest_52 : decode cX5_growsByGreatest 52 = .ok (.getfield 12, 3) := by decide +kernel
theorem dX5_growsByGreatest_55 : decode cX5_growsByGreatest 55 = .ok (.aload_n 1, 1) := by decide +kernel
theorem dX5_growsByGreatest_56 : decode cX5_growsByGreatest 56 = .ok (.invokevirtual 124, 3) := by decide +kernel
theorem dX5_growsByGreatest_59 : decode cX5_growsByGreatest 59 = .ok (.iconst 1, 1) := by decide +kernel
theorem dX5_growsByGreatest_60 : decode cX5_growsByGreatest 60 = .ok (.iload 4, 2) := by decide +kernel
theorem dX5_growsByGreatest_62 : decode cX5_growsByGreatest 62 = .ok (.ishl, 1) := by decide +kernel
theorem dX5_growsByGreatest_63 : decode cX5_growsByGreatest 63 = .ok (.iconst (-1), 1) := by decide +kernel
theorem dX5_growsByGreatest_64 : decode cX5_growsByGreatest 64 = .ok (.ixor, 1) := by decide +kernel
theorem dX5_growsByGreatest_65 : decode cX5_growsByGreatest 65 = .ok (.iand, 1) := by decide +kernel
theorem dX5_growsByGreatest_66 : decode cX5_growsByGreatest 66 = .ok (.invokevirtual 134, 3) := by decide +kernel
theorem dX5_growsByGreatest_69 : decode cX5_growsByGreatest 69 = .ok (.iload_n 3, 1) := by decide +kernel
theorem dX5_growsByGreatest_70 : decode cX5_growsByGreatest 70 = .ok (.aload_n 0, 1) := by decide +kernel
theorem dX5_growsByGreatest_71 : decode cX5_growsByGreatest 71 = .ok (.getfield 28, 3) := by decide +kernel
theorem dX5_growsByGreatest_74 : decode cX5_growsByGreatest 74 = .ok (.aload_n 0, 1) := by decide +kernel
theorem dX5_growsByGreatest_75 : decode cX5_growsByGreatest 75 = .ok (.getfield 12, 3) := by decide +kernel
theorem dX5_growsByGreatest_78 : decode cX5_growsByGreatest 78 = .ok (.invokevirtual 138, 3) := by decide +kernel
theorem dX5_growsByGreatest_81 : decode cX5_growsByGreatest 81 = .ok (.iadd, 1) := by decide +kernel
theorem dX5_growsByGreatest_82 : decode cX5_growsByGreatest 82 = .ok (.istore_n 3, 1) := by decide +kernel
theorem dX5_growsByGreatest_83 : decode cX5_growsByGreatest 83 = .ok (.iinc 4 1, 3) := by decide +kernel
theorem dX5_growsByGreatest_86 : decode cX5_growsByGreatest 86 = .ok (.goto (-61), 3) := by decide +kernel
theorem dX5_growsByGreatest_89 : decode cX5_growsByGreatest 89 = .ok (.iload_n 3, 1) := by decide +kernel
theorem dX5_growsByGreatest_90 : decode cX5_growsByGreatest 90 = .ok (.aload_n 0, 1) := by decide +kernel
theorem dX5_growsByGreatest_91 : decode cX5_growsByGreatest 91 = .ok (.getfield 24, 3) := by decide +kernel
theorem dX5_growsByGreatest_94 : decode cX5_growsByGreatest 94 = .ok (.aload_n 1, 1) := by decide +kernel
theorem dX5_growsByGreatest_95 : decode cX5_growsByGreatest 95 = .ok (.invokevirtual 138, 3) := by decide +kernel
theorem dX5_growsByGreatest_98 : decode cX5_growsByGreatest 98 = .ok (.if_icmp .ne 7, 3) := by decide +kernel
theorem dX5_growsByGreatest_101 : decode cX5_growsByGreatest 101 = .ok (.iconst 1, 1) := by decide +kernel
theorem dX5_growsByGreatest_102 : decode cX5_growsByGreatest 102 = .ok (.goto 4, 3) := by decide +kernel
theorem dX5_growsByGreatest_105 : decode cX5_growsByGreatest 105 = .ok (.iconst 0, 1) := by decide +kernel
theorem dX5_growsByGreatest_106 : decode cX5_growsByGreatest 106 = .ok (.ireturn, 1) := by decide +kernel
theorem dX5_rowsTellPair_0 : decode cX5_rowsTellPair 0 = .ok (.aload_n 0, 1) := by decide +kernel
theorem dX5_rowsTellPair_1 : decode cX5_rowsTellPair 1 = .ok (.getfield 24, 3) := by decide +kernel
theorem dX5_rowsTellPair_4 : decode cX5_rowsTellPair 4 = .ok (.aload_n 1, 1) := by decide +kernel
theorem dX5_rowsTellPair_5 : decode cX5_rowsTellPair 5 = .ok (.iload_n 2, 1) := by decide +kernel
theorem dX5_rowsTellPair_6 : decode cX5_rowsTellPair 6 = .ok (.iload_n 3, 1) := by decide +kernel
theorem dX5_rowsTellPair_7 : decode cX5_rowsTellPair 7 = .ok (.invokevirtual 148, 3) := by decide +kernel
theorem dX5_rowsTellPair_10 : decode cX5_rowsTellPair 10 = .ok (.istore 5, 2) := by decide +kernel
theorem dX5_rowsTellPair_12 : decode cX5_rowsTellPair 12 = .ok (.aload_n 1, 1) := by decide +kernel
theorem dX5_rowsTellPair_13 : decode cX5_rowsTellPair 13 = .ok (.iload_n 3, 1) := by decide +kernel
theorem dX5_rowsTellPair_14 : decode cX5_rowsTellPair 14 = .ok (.iload_n 2, 1) := by decide +kernel
theorem dX5_rowsTellPair_15 : decode cX5_rowsTellPair 15 = .ok (.invokevirtual 88, 3) := by decide +kernel
theorem dX5_rowsTellPair_18 : decode cX5_rowsTellPair 18 = .ok (.ifCond .eq 14, 3) := by decide +kernel
theorem dX5_rowsTellPair_21 : decode cX5_rowsTellPair 21 = .ok (.iload 5, 2) := by decide +kernel
theorem dX5_rowsTellPair_23 : decode cX5_rowsTellPair 23 = .ok (.ifCond .ne 7, 3) := by decide +kernel
theorem dX5_rowsTellPair_26 : decode cX5_rowsTellPair 26 = .ok (.iconst 1, 1) := by decide +kernel
theorem dX5_rowsTellPair_27 : decode cX5_rowsTellPair 27 = .ok (.goto 4, 3) := by decide +kernel
theorem dX5_rowsTellPair_30 : decode cX5_rowsTellPair 30 = .ok (.iconst 0, 1) := by decide +kernel
theorem dX5_rowsTellPair_31 : decode cX5_rowsTellPair 31 = .ok (.ireturn, 1) := by decide +kernel
theorem dX5_rowsTellPair_32 : decode cX5_rowsTellPair 32 = .ok (.aload_n 1, 1) := by decide +kernel
theorem dX5_rowsTellPair_33 : decode cX5_rowsTellPair 33 = .ok (.iload_n 2, 1) := by decide +kernel
theorem dX5_rowsTellPair_34 : decode cX5_rowsTellPair 34 = .ok (.iload_n 3, 1) := by decide +kernel
theorem dX5_rowsTellPair_35 : decode cX5_rowsTellPair 35 = .ok (.invokevirtual 88, 3) := by decide +kernel
theorem dX5_rowsTellPair_38 : decode cX5_rowsTellPair 38 = .ok (.ifCond .eq 16, 3) := by decide +kernel
theorem dX5_rowsTellPair_41 : decode cX5_rowsTellPair 41 = .ok (.iload 5, 2) := by decide +kernel
theorem dX5_rowsTellPair_43 : decode cX5_rowsTellPair 43 = .ok (.iload 4, 2) := by decide +kernel
theorem dX5_rowsTellPair_45 : decode cX5_rowsTellPair 45 = .ok (.if_icmp .ne 7, 3) := by decide +kernel
theorem dX5_rowsTellPair_48 : decode cX5_rowsTellPair 48 = .ok (.iconst 1, 1) := by decide +kernel
theorem dX5_rowsTellPair_49 : decode cX5_rowsTellPair 49 = .ok (.goto 4, 3) := by decide +kernel
theorem dX5_rowsTellPair_52 : decode cX5_rowsTellPair 52 = .ok (.iconst 0, 1) := by decide +kernel
theorem dX5_rowsTellPair_53 : decode cX5_rowsTellPair 53 = .ok (.ireturn, 1) := by decide +kernel
theorem dX5_rowsTellPair_54 : decode cX5_rowsTellPair 54 = .ok (.aload_n 0, 1) := by decide +kernel
theorem dX5_rowsTellPair_55 : decode cX5_rowsTellPair 55 = .ok (.getfield 12, 3) := by decide +kernel
theorem dX5_rowsTellPair_58 : decode cX5_rowsTellPair 58 = .ok (.aload_n 1, 1) := by decide +kernel
theorem dX5_rowsTellPair_59 : decode cX5_rowsTellPair 59 = .ok (.invokevirtual 106, 3) := by decide +kernel
theorem dX5_rowsTellPair_62 : decode cX5_rowsTellPair 62 = .ok (.aload_n 0, 1) := by decide +kernel
theorem dX5_rowsTellPair_63 : decode cX5_rowsTellPair 63 = .ok (.getfield 12, 3) := by decide +kernel
theorem dX5_rowsTellPair_66 : decode cX5_rowsTellPair 66 = .ok (.iload_n 2, 1) := by decide +kernel
theorem dX5_rowsTellPair_67 : decode cX5_rowsTellPair 67 = .ok (.iload_n 3, 1) := by decide +kernel
theorem dX5_rowsTellPair_68 : decode cX5_rowsTellPair 68 = .ok (.invokevirtual 110, 3) := by decide +kernel
theorem dX5_rowsTellPair_71 : decode cX5_rowsTellPair 71 = .ok (.pop, 1) := by decide +kernel
theorem dX5_rowsTellPair_72 : decode cX5_rowsTellPair 72 = .ok (.iload 5, 2) := by decide +kernel
theorem dX5_rowsTellPair_74 : decode cX5_rowsTellPair 74 = .ok (.ifCond .le 30, 3) := by decide +kernel
theorem dX5_rowsTellPair_77 : decode cX5_rowsTellPair 77 = .ok (.iload 5, 2) := by decide +kernel
theorem dX5_rowsTellPair_79 : decode cX5_rowsTellPair 79 = .ok (.iload 4, 2) := by decide +kernel
theorem dX5_rowsTellPair_81 : decode cX5_rowsTellPair 81 = .ok (.if_icmp .ge 23, 3) := by decide +kernel
theorem dX5_rowsTellPair_84 : decode cX5_rowsTellPair 84 = .ok (.aload_n 0, 1) := by decide +kernel
theorem dX5_rowsTellPair_85 : decode cX5_rowsTellPair 85 = .ok (.getfield 28, 3) := by decide +kernel
theorem dX5_rowsTellPair_88 : decode cX5_rowsTellPair 88 = .ok (.aload_n 0, 1) := by decide +kernel
theorem dX5_rowsTellPair_89 : decode cX5_rowsTellPair 89 = .ok (.getfield 12, 3) := by decide +kernel
theorem dX5_rowsTellPair_92 : decode cX5_rowsTellPair 92 = .ok (.invokevirtual 138, 3) := by decide +kernel
theorem dX5_rowsTellPair_95 : decode cX5_rowsTellPair 95 = .ok (.iload 5, 2) := by decide +kernel
theorem dX5_rowsTellPair_97 : decode cX5_rowsTellPair 97 = .ok (.if_icmp .ne 7, 3) := by decide +kernel
theorem dX5_rowsTellPair_100 : decode cX5_rowsTellPair 100 = .ok (.iconst 1, 1) := by decide +kernel
theorem dX5_rowsTellPair_101 : decode cX5_rowsTellPair 101 = .ok (.goto 4, 3) := by decide +kernel
theorem dX5_rowsTellPair_104 : decode cX5_rowsTellPair 104 = .ok (.iconst 0, 1) := by decide +kernel
theorem dX5_rowsTellPair_105 : decode cX5_rowsTellPair 105 = .ok (.ireturn, 1) := by decide +kernel
theorem dX5_rowsTellPairs_0 : decode cX5_rowsTellPairs 0 = .ok (.aload_n 0, 1) := by decide +kernel
theorem dX5_rowsTellPairs_1 : decode cX5_rowsTellPairs 1 = .ok (.getfield 24, 3) := by decide +kernel
theorem dX5_rowsTellPairs_4 : decode cX5_rowsTellPairs 4 = .ok (.aload_n 1, 1) := by decide +kernel
theorem dX5_rowsTellPairs_5 : decode cX5_rowsTellPairs 5 = .ok (.invokevirtual 141, 3) := by decide +kernel
theorem dX5_rowsTellPairs_8 : decode cX5_rowsTellPairs 8 = .ok (.istore_n 2, 1) := by decide +kernel
theorem dX5_rowsTellPairs_9 : decode cX5_rowsTellPairs 9 = .ok (.iconst 0, 1) := by decide +kernel
theorem dX5_rowsTellPairs_10 : decode cX5_rowsTellPairs 10 = .ok (.istore_n 3, 1) := by decide +kernel
theorem dX5_rowsTellPairs_11 : decode cX5_rowsTellPairs 11 = .ok (.iload_n 3, 1) := by decide +kernel
theorem dX5_rowsTellPairs_12 : decode cX5_rowsTellPairs 12 = .ok (.aload_n 1, 1) := by decide +kernel
theorem dX5_rowsTellPairs_13 : decode cX5_rowsTellPairs 13 = .ok (.getfield 84, 3) := by decide +kernel
theorem dX5_rowsTellPairs_16 : decode cX5_rowsTellPairs 16 = .ok (.if_icmp .ge 47, 3) := by decide +kernel
theorem dX5_rowsTellPairs_19 : decode cX5_rowsTellPairs 19 = .ok (.iconst 0, 1) := by decide +kernel
theorem dX5_rowsTellPairs_20 : decode cX5_rowsTellPairs 20 = .ok (.istore 4, 2) := by decide +kernel
theorem dX5_rowsTellPairs_22 : decode cX5_rowsTellPairs 22 = .ok (.iload 4, 2) := by decide +kernel
theorem dX5_rowsTellPairs_24 : decode cX5_rowsTellPairs 24 = .ok (.aload_n 1, 1) := by decide +kernel
theorem dX5_rowsTellPairs_25 : decode cX5_rowsTellPairs 25 = .ok (.getfield 84, 3) := by decide +kernel
theorem dX5_rowsTellPairs_28 : decode cX5_rowsTellPairs 28 = .ok (.if_icmp .ge 29, 3) := by decide +kernel
theorem dX5_rowsTellPairs_31 : decode cX5_rowsTellPairs 31 = .ok (.iload_n 3, 1) := by decide +kernel
theorem dX5_rowsTellPairs_32 : decode cX5_rowsTellPairs 32 = .ok (.iload 4, 2) := by decide +kernel
theorem dX5_rowsTellPairs_34 : decode cX5_rowsTellPairs 34 = .ok (.if_icmp .eq 17, 3) := by decide +kernel
theorem dX5_rowsTellPairs_37 : decode cX5_rowsTellPairs 37 = .ok (.aload_n 0, 1) := by decide +kernel
theorem dX5_rowsTellPairs_38 : decode cX5_rowsTellPairs 38 = .ok (.aload_n 1, 1) := by decide +kernel
theorem dX5_rowsTellPairs_39 : decode cX5_rowsTellPairs 39 = .ok (.iload_n 3, 1) := by decide +kernel
theorem dX5_rowsTellPairs_40 : decode cX5_rowsTellPairs 40 = .ok (.iload 4, 2) := by decide +kernel
theorem dX5_rowsTellPairs_42 : decode cX5_rowsTellPairs 42 = .ok (.iload_n 2, 1) := by decide +kernel
theorem dX5_rowsTellPairs_43 : decode cX5_rowsTellPairs 43 = .ok (.invokevirtual 144, 3) := by decide +kernel
theorem dX5_rowsTellPairs_46 : decode cX5_rowsTellPairs 46 = .ok (.ifCond .ne 5, 3) := by decide +kernel
theorem dX5_rowsTellPairs_49 : decode cX5_rowsTellPairs 49 = .ok (.iconst 0, 1) := by decide +kernel
theorem dX5_rowsTellPairs_50 : decode cX5_rowsTellPairs 50 = .ok (.ireturn, 1) := by decide +kernel
theorem dX5_rowsTellPairs_51 : decode cX5_rowsTellPairs 51 = .ok (.iinc 4 1, 3) := by decide +kernel
theorem dX5_rowsTellPairs_54 : decode cX5_rowsTellPairs 54 = .ok (.goto (-32), 3) := by decide +kernel
theorem dX5_rowsTellPairs_57 : decode cX5_rowsTellPairs 57 = .ok (.iinc 3 1, 3) := by decide +kernel
theorem dX5_rowsTellPairs_60 : decode cX5_rowsTellPairs 60 = .ok (.goto (-49), 3) := by decide +kernel
theorem dX5_rowsTellPairs_63 : decode cX5_rowsTellPairs 63 = .ok (.iconst 1, 1) := by decide +kernel
theorem dX5_rowsTellPairs_64 : decode cX5_rowsTellPairs 64 = .ok (.ireturn, 1) := by decide +kernel
theorem dX5_coversFit_0 : decode cX5_coversFit 0 = .ok (.aload_n 0, 1) := by decide +kernel
theorem dX5_coversFit_1 : decode cX5_coversFit 1 = .ok (.getfield 34, 3) := by decide +kernel
theorem dX5_coversFit_4 : decode cX5_coversFit 4 = .ok (.aload_n 1, 1) := by decide +kernel
theorem dX5_coversFit_5 : decode cX5_coversFit 5 = .ok (.invokevirtual 152, 3) := by decide +kernel
theorem dX5_coversFit_8 : decode cX5_coversFit 8 = .ok (.aload_n 1, 1) := by decide +kernel
theorem dX5_coversFit_9 : decode cX5_coversFit 9 = .ok (.invokestatic 155, 3) := by decide +kernel
theorem dX5_coversFit_12 : decode cX5_coversFit 12 = .ok (.if_icmp .ne 22, 3) := by decide +kernel
theorem dX5_coversFit_15 : decode cX5_coversFit 15 = .ok (.aload_n 1, 1) := by decide +kernel
theorem dX5_coversFit_16 : decode cX5_coversFit 16 = .ok (.invokestatic 158, 3) := by decide +kernel
theorem dX5_coversFit_19 : decode cX5_coversFit 19 = .ok (.aload_n 1, 1) := by decide +kernel
theorem dX5_coversFit_20 : decode cX5_coversFit 20 = .ok (.aload_n 1, 1) := by decide +kernel
theorem dX5_coversFit_21 : decode cX5_coversFit 21 = .ok (.invokevirtual 124, 3) := by decide +kernel
theorem dX5_coversFit_24 : decode cX5_coversFit 24 = .ok (.invokestatic 161, 3) := by decide +kernel
theorem dX5_coversFit_27 : decode cX5_coversFit 27 = .ok (.if_icmp .ne 7, 3) := by decide +kernel
theorem dX5_coversFit_30 : decode cX5_coversFit 30 = .ok (.iconst 1, 1) := by decide +kernel
theorem dX5_coversFit_31 : decode cX5_coversFit 31 = .ok (.goto 4, 3) := by decide +kernel
theorem dX5_coversFit_34 : decode cX5_coversFit 34 = .ok (.iconst 0, 1) := by decide +kernel
theorem dX5_coversFit_35 : decode cX5_coversFit 35 = .ok (.ireturn, 1) := by decide +kernel
theorem dX5_closedSetFits_0 : decode cX5_closedSetFits 0 = .ok (.iload_n 1, 1) := by decide +kernel
theorem dX5_closedSetFits_1 : decode cX5_closedSetFits 1 = .ok (.aload_n 0, 1) := by decide +kernel
theorem dX5_closedSetFits_2 : decode cX5_closedSetFits 2 = .ok (.invokevirtual 124, 3) := by decide +kernel
theorem dX5_closedSetFits_5 : decode cX5_closedSetFits 5 = .ok (.if_icmp .ne 7, 3) := by decide +kernel
theorem dX5_closedSetFits_8 : decode cX5_closedSetFits 8 = .ok (.iconst 1, 1) := by decide +kernel
theorem dX5_closedSetFits_9 : decode cX5_closedSetFits 9 = .ok (.goto 4, 3) := by decide +kernel
theorem dX5_closedSetFits_12 : decode cX5_closedSetFits 12 = .ok (.iconst 0, 1) := by decide +kernel
theorem dX5_closedSetFits_13 : decode cX5_closedSetFits 13 = .ok (.istore_n 2, 1) := by decide +kernel
theorem dX5_closedSetFits_14 : decode cX5_closedSetFits 14 = .ok (.iconst 0, 1) := by decide +kernel
theorem dX5_closedSetFits_15 : decode cX5_closedSetFits 15 = .ok (.istore_n 3, 1) := by decide +kernel
theorem dX5_closedSetFits_16 : decode cX5_closedSetFits 16 = .ok (.iload_n 3, 1) := by decide +kernel
theorem dX5_closedSetFits_17 : decode cX5_closedSetFits 17 = .ok (.aload_n 0, 1) := by decide +kernel
theorem dX5_closedSetFits_18 : decode cX5_closedSetFits 18 = .ok (.getfield 84, 3) := by decide +kernel
theorem dX5_closedSetFits_21 : decode cX5_closedSetFits 21 = .ok (.if_icmp .ge 28, 3) := by decide +kernel
theorem dX5_closedSetFits_24 : decode cX5_closedSetFits 24 = .ok (.iload_n 2, 1) := by decide +kernel
theorem dX5_closedSetFits_25 : decode cX5_closedSetFits 25 = .ok (.ifCond .ne 12, 3) := by decide +kernel
theorem dX5_closedSetFits_28 : decode cX5_closedSetFits 28 = .ok (.aload_n 0, 1) := by decide +kernel
theorem dX5_closedSetFits_29 : decode cX5_closedSetFits 29 = .ok (.iload_n 1, 1) := by decide +kernel
theorem dX5_closedSetFits_30 : decode cX5_closedSetFits 30 = .ok (.iload_n 3, 1) := by decide +kernel
theorem dX5_closedSetFits_31 : decode cX5_closedSetFits 31 = .ok (.invokevirtual 188, 3) := by decide +kernel
theorem dX5_closedSetFits_34 : decode cX5_closedSetFits 34 = .ok (.ifCond .eq 7, 3) := by decide +kernel
theorem dX5_closedSetFits_37 : decode cX5_closedSetFits 37 = .ok (.iconst 1, 1) := by decide +kernel
theorem dX5_closedSetFits_38 : decode cX5_closedSetFits 38 = .ok (.goto 4, 3) := by decide +kernel
theorem dX5_closedSetFits_41 : decode cX5_closedSetFits 41 = .ok (.iconst 0, 1) := by decide +kernel
theorem dX5_closedSetFits_42 : decode cX5_closedSetFits 42 = .ok (.istore_n 2, 1) := by decide +kernel
theorem dX5_closedSetFits_43 : decode cX5_closedSetFits 43 = .ok (.iinc 3 1, 3) := by decide +kernel
theorem dX5_closedSetFits_46 : decode cX5_closedSetFits 46 = .ok (.goto (-30), 3) := by decide +kernel
theorem dX5_closedSetFits_49 : decode cX5_closedSetFits 49 = .ok (.iload_n 2, 1) := by decide +kernel
theorem dX5_closedSetFits_50 : decode cX5_closedSetFits 50 = .ok (.ifCond .eq 20, 3) := by decide +kernel
theorem dX5_closedSetFits_53 : decode cX5_closedSetFits 53 = .ok (.aload_n 0, 1) := by decide +kernel
theorem dX5_closedSetFits_54 : decode cX5_closedSetFits 54 = .ok (.aload_n 0, 1) := by decide +kernel
theorem dX5_closedSetFits_55 : decode cX5_closedSetFits 55 = .ok (.iload_n 1, 1) := by decide +kernel
theorem dX5_closedSetFits_56 : decode cX5_closedSetFits 56 = .ok (.invokevirtual 128, 3) := by decide +kernel
theorem dX5_closedSetFits_59 : decode cX5_closedSetFits 59 = .ok (.invokevirtual 191, 3) := by decide +kernel
theorem dX5_closedSetFits_62 : decode cX5_closedSetFits 62 = .ok (.iload_n 1, 1) := by decide +kernel
theorem dX5_closedSetFits_63 : decode cX5_closedSetFits 63 = .ok (.if_icmp .ne 7, 3) := by decide +kernel
theorem dX5_closedSetFits_66 : decode cX5_closedSetFits 66 = .ok (.iconst 1, 1) := by decide +kernel
theorem dX5_closedSetFits_67 : decode cX5_closedSetFits 67 = .ok (.goto 4, 3) := by decide +kernel
theorem dX5_closedSetFits_70 : decode cX5_closedSetFits 70 = .ok (.iconst 0, 1) := by decide +kernel
theorem dX5_closedSetFits_71 : decode cX5_closedSetFits 71 = .ok (.ireturn, 1) := by decide +kernel
theorem dX5_staysClosedBy_0 : decode cX5_staysClosedBy 0 = .ok (.aload_n 1, 1) := by decide +kernel
theorem dX5_staysClosedBy_1 : decode cX5_staysClosedBy 1 = .ok (.getfield 92, 3) := by decide +kernel
theorem dX5_staysClosedBy_4 : decode cX5_staysClosedBy 4 = .ok (.iload_n 2, 1) := by decide +kernel
theorem dX5_staysClosedBy_5 : decode cX5_staysClosedBy 5 = .ok (.iaload, 1) := by decide +kernel
theorem dX5_staysClosedBy_6 : decode cX5_staysClosedBy 6 = .ok (.iconst 1, 1) := by decide +kernel
theorem dX5_staysClosedBy_7 : decode cX5_staysClosedBy 7 = .ok (.iload_n 2, 1) := by decide +kernel
theorem dX5_staysClosedBy_8 : decode cX5_staysClosedBy 8 = .ok (.ishl, 1) := by decide +kernel
theorem dX5_staysClosedBy_9 : decode cX5_staysClosedBy 9 = .ok (.ior, 1) := by decide +kernel
theorem dX5_staysClosedBy_10 : decode cX5_staysClosedBy 10 = .ok (.istore_n 3, 1) := by decide +kernel
theorem dX5_staysClosedBy_11 : decode cX5_staysClosedBy 11 = .ok (.aload_n 1, 1) := by decide +kernel
theorem dX5_staysClosedBy_12 : decode cX5_staysClosedBy 12 = .ok (.iload_n 2, 1) := by decide +kernel
theorem dX5_staysClosedBy_13 : decode cX5_staysClosedBy 13 = .ok (.invokevirtual 194, 3) := by decide +kernel
theorem dX5_staysClosedBy_16 : decode cX5_staysClosedBy 16 = .ok (.iconst 1, 1) := by decide +kernel
theorem dX5_staysClosedBy_17 : decode cX5_staysClosedBy 17 = .ok (.iload_n 2, 1) := by decide +kernel
theorem dX5_staysClosedBy_18 : decode cX5_staysClosedBy 18 = .ok (.ishl, 1) := by decide +kernel
theorem dX5_staysClosedBy_19 : decode cX5_staysClosedBy 19 = .ok (.ior, 1) := by decide +kernel
theorem dX5_staysClosedBy_20 : decode cX5_staysClosedBy 20 = .ok (.istore 4, 2) := by decide +kernel
theorem dX5_staysClosedBy_22 : decode cX5_staysClosedBy 22 = .ok (.iconst 0, 1) := by decide +kernel
theorem dX5_staysClosedBy_23 : decode cX5_staysClosedBy 23 = .ok (.istore 5, 2) := by decide +kernel
theorem dX5_staysClosedBy_25 : decode cX5_staysClosedBy 25 = .ok (.iload 5, 2) := by decide +kernel
theorem dX5_staysClosedBy_27 : decode cX5_staysClosedBy 27 = .ok (.aload_n 1, 1) := by decide +kernel
theorem dX5_staysClosedBy_28 : decode cX5_staysClosedBy 28 = .ok (.invokevirtual 165, 3) := by decide +kernel
theorem dX5_staysClosedBy_31 : decode cX5_staysClosedBy 31 = .ok (.if_icmp .ge 54, 3) := by decide +kernel
theorem dX5_staysClosedBy_34 : decode cX5_staysClosedBy 34 = .ok (.aload_n 0, 1) := by decide +kernel
theorem dX5_staysClosedBy_35 : decode cX5_staysClosedBy 35 = .ok (.getfield 24, 3) := by decide +kernel
theorem dX5_staysClosedBy_38 : decode cX5_staysClosedBy 38 = .ok (.iload 5, 2) := by decide +kernel
theorem dX5_staysClosedBy_40 : decode cX5_staysClosedBy 40 = .ok (.invokevirtual 172, 3) := by decide +kernel
theorem dX5_staysClosedBy_43 : decode cX5_staysClosedBy 43 = .ok (.ifCond .eq 36, 3) := by decide +kernel
theorem dX5_staysClosedBy_46 : decode cX5_staysClosedBy 46 = .ok (.aload_n 0, 1) := by decide +kernel
theorem dX5_staysClosedBy_47 : decode cX5_staysClosedBy 47 = .ok (.getfield 24, 3) := by decide +kernel
theorem dX5_staysClosedBy_50 : decode cX5_staysClosedBy 50 = .ok (.iload 5, 2) := by decide +kernel
theorem dX5_staysClosedBy_52 : decode cX5_staysClosedBy 52 = .ok (.iload_n 3, 1) := by decide +kernel
theorem dX5_staysClosedBy_53 : decode cX5_staysClosedBy 53 = .ok (.ior, 1) := by decide +kernel
theorem dX5_staysClosedBy_54 : decode cX5_staysClosedBy 54 = .ok (.invokevirtual 172, 3) := by decide +kernel
theorem dX5_staysClosedBy_57 : decode cX5_staysClosedBy 57 = .ok (.ifCond .eq 20, 3) := by decide +kernel
theorem dX5_staysClosedBy_60 : decode cX5_staysClosedBy 60 = .ok (.aload_n 0, 1) := by decide +kernel
theorem dX5_staysClosedBy_61 : decode cX5_staysClosedBy 61 = .ok (.getfield 24, 3) := by decide +kernel
theorem dX5_staysClosedBy_64 : decode cX5_staysClosedBy 64 = .ok (.iload 5, 2) := by decide +kernel
theorem dX5_staysClosedBy_66 : decode cX5_staysClosedBy 66 = .ok (.iload 4, 2) := by decide +kernel
theorem dX5_staysClosedBy_68 : decode cX5_staysClosedBy 68 = .ok (.iconst (-1), 1) := by decide +kernel
theorem dX5_staysClosedBy_69 : decode cX5_staysClosedBy 69 = .ok (.ixor, 1) := by decide +kernel
theorem dX5_staysClosedBy_70 : decode cX5_staysClosedBy 70 = .ok (.iand, 1) := by decide +kernel
theorem dX5_staysClosedBy_71 : decode cX5_staysClosedBy 71 = .ok (.invokevirtual 172, 3) := by decide +kernel
theorem dX5_staysClosedBy_74 : decode cX5_staysClosedBy 74 = .ok (.ifCond .ne 5, 3) := by decide +kernel
theorem dX5_staysClosedBy_77 : decode cX5_staysClosedBy 77 = .ok (.iconst 0, 1) := by decide +kernel
theorem dX5_staysClosedBy_78 : decode cX5_staysClosedBy 78 = .ok (.ireturn, 1) := by decide +kernel
theorem dX5_staysClosedBy_79 : decode cX5_staysClosedBy 79 = .ok (.iinc 5 1, 3) := by decide +kernel
theorem dX5_staysClosedBy_82 : decode cX5_staysClosedBy 82 = .ok (.goto (-57), 3) := by decide +kernel
theorem dX5_staysClosedBy_85 : decode cX5_staysClosedBy 85 = .ok (.iconst 1, 1) := by decide +kernel
theorem dX5_staysClosedBy_86 : decode cX5_staysClosedBy 86 = .ok (.ireturn, 1) := by decide +kernel
theorem dX5_closedSetsFit_0 : decode cX5_closedSetsFit 0 = .ok (.aload_n 0, 1) := by decide +kernel
theorem dX5_closedSetsFit_1 : decode cX5_closedSetsFit 1 = .ok (.getfield 24, 3) := by decide +kernel
theorem dX5_closedSetsFit_4 : decode cX5_closedSetsFit 4 = .ok (.aload_n 1, 1) := by decide +kernel
theorem dX5_closedSetsFit_5 : decode cX5_closedSetsFit 5 = .ok (.invokevirtual 138, 3) := by decide +kernel
theorem dX5_closedSetsFit_8 : decode cX5_closedSetsFit 8 = .ok (.pop, 1) := by decide +kernel
theorem dX5_closedSetsFit_9 : decode cX5_closedSetsFit 9 = .ok (.iconst 0, 1) := by decide +kernel
theorem dX5_closedSetsFit_10 : decode cX5_closedSetsFit 10 = .ok (.istore_n 2, 1) := by decide +kernel
theorem dX5_closedSetsFit_11 : decode cX5_closedSetsFit 11 = .ok (.iload_n 2, 1) := by decide +kernel
theorem dX5_closedSetsFit_12 : decode cX5_closedSetsFit 12 = .ok (.aload_n 1, 1) := by decide +kernel
theorem dX5_closedSetsFit_13 : decode cX5_closedSetsFit 13 = .ok (.invokevirtual 165, 3) := by decide +kernel
theorem dX5_closedSetsFit_16 : decode cX5_closedSetsFit 16 = .ok (.if_icmp .ge 41, 3) := by decide +kernel
theorem dX5_closedSetsFit_19 : decode cX5_closedSetsFit 19 = .ok (.aload_n 1, 1) := by decide +kernel
theorem dX5_closedSetsFit_20 : decode cX5_closedSetsFit 20 = .ok (.iload_n 2, 1) := by decide +kernel
theorem dX5_closedSetsFit_21 : decode cX5_closedSetsFit 21 = .ok (.invokevirtual 168, 3) := by decide +kernel
theorem dX5_closedSetsFit_24 : decode cX5_closedSetsFit 24 = .ok (.istore_n 3, 1) := by decide +kernel
theorem dX5_closedSetsFit_25 : decode cX5_closedSetsFit 25 = .ok (.iload_n 3, 1) := by decide +kernel
theorem dX5_closedSetsFit_26 : decode cX5_closedSetsFit 26 = .ok (.aload_n 0, 1) := by decide +kernel
theorem dX5_closedSetsFit_27 : decode cX5_closedSetsFit 27 = .ok (.getfield 24, 3) := by decide +kernel
theorem dX5_closedSetsFit_30 : decode cX5_closedSetsFit 30 = .ok (.iload_n 2, 1) := by decide +kernel
theorem dX5_closedSetsFit_31 : decode cX5_closedSetsFit 31 = .ok (.invokevirtual 172, 3) := by decide +kernel
theorem dX5_closedSetsFit_34 : decode cX5_closedSetsFit 34 = .ok (.if_icmp .ne 15, 3) := by decide +kernel
theorem dX5_closedSetsFit_37 : decode cX5_closedSetsFit 37 = .ok (.iload_n 3, 1) := by decide +kernel
theorem dX5_closedSetsFit_38 : decode cX5_closedSetsFit 38 = .ok (.ifCond .eq 13, 3) := by decide +kernel
theorem dX5_closedSetsFit_41 : decode cX5_closedSetsFit 41 = .ok (.aload_n 1, 1) := by decide +kernel
theorem dX5_closedSetsFit_42 : decode cX5_closedSetsFit 42 = .ok (.iload_n 2, 1) := by decide +kernel
theorem dX5_closedSetsFit_43 : decode cX5_closedSetsFit 43 = .ok (.invokestatic 175, 3) := by decide +kernel
theorem dX5_closedSetsFit_46 : decode cX5_closedSetsFit 46 = .ok (.ifCond .ne 5, 3) := by decide +kernel
theorem dX5_closedSetsFit_49 : decode cX5_closedSetsFit 49 = .ok (.iconst 0, 1) := by decide +kernel
theorem dX5_closedSetsFit_50 : decode cX5_closedSetsFit 50 = .ok (.ireturn, 1) := by decide +kernel
theorem dX5_closedSetsFit_51 : decode cX5_closedSetsFit 51 = .ok (.iinc 2 1, 3) := by decide +kernel
theorem dX5_closedSetsFit_54 : decode cX5_closedSetsFit 54 = .ok (.goto (-43), 3) := by decide +kernel
theorem dX5_closedSetsFit_57 : decode cX5_closedSetsFit 57 = .ok (.iconst 0, 1) := by decide +kernel
theorem dX5_closedSetsFit_58 : decode cX5_closedSetsFit 58 = .ok (.istore_n 2, 1) := by decide +kernel
theorem dX5_closedSetsFit_59 : decode cX5_closedSetsFit 59 = .ok (.iload_n 2, 1) := by decide +kernel
theorem dX5_closedSetsFit_60 : decode cX5_closedSetsFit 60 = .ok (.aload_n 1, 1) := by decide +kernel
theorem dX5_closedSetsFit_61 : decode cX5_closedSetsFit 61 = .ok (.getfield 84, 3) := by decide +kernel
theorem dX5_closedSetsFit_64 : decode cX5_closedSetsFit 64 = .ok (.if_icmp .ge 20, 3) := by decide +kernel
theorem dX5_closedSetsFit_67 : decode cX5_closedSetsFit 67 = .ok (.aload_n 0, 1) := by decide +kernel
theorem dX5_closedSetsFit_68 : decode cX5_closedSetsFit 68 = .ok (.aload_n 1, 1) := by decide +kernel
theorem dX5_closedSetsFit_69 : decode cX5_closedSetsFit 69 = .ok (.iload_n 2, 1) := by decide +kernel
theorem dX5_closedSetsFit_70 : decode cX5_closedSetsFit 70 = .ok (.invokevirtual 179, 3) := by decide +kernel
theorem dX5_closedSetsFit_73 : decode cX5_closedSetsFit 73 = .ok (.ifCond .ne 5, 3) := by decide +kernel
theorem dX5_closedSetsFit_76 : decode cX5_closedSetsFit 76 = .ok (.iconst 0, 1) := by decide +kernel
theorem dX5_closedSetsFit_77 : decode cX5_closedSetsFit 77 = .ok (.ireturn, 1) := by decide +kernel
theorem dX5_closedSetsFit_78 : decode cX5_closedSetsFit 78 = .ok (.iinc 2 1, 3) := by decide +kernel
theorem dX5_closedSetsFit_81 : decode cX5_closedSetsFit 81 = .ok (.goto (-22), 3) := by decide +kernel
theorem dX5_closedSetsFit_84 : decode cX5_closedSetsFit 84 = .ok (.aload_n 1, 1) := by decide +kernel
theorem dX5_closedSetsFit_85 : decode cX5_closedSetsFit 85 = .ok (.invokestatic 182, 3) := by decide +kernel
theorem dX5_closedSetsFit_88 : decode cX5_closedSetsFit 88 = .ok (.aload_n 1, 1) := by decide +kernel
theorem dX5_closedSetsFit_89 : decode cX5_closedSetsFit 89 = .ok (.invokestatic 185, 3) := by decide +kernel
theorem dX5_closedSetsFit_92 : decode cX5_closedSetsFit 92 = .ok (.if_icmp .ne 7, 3) := by decide +kernel
theorem dX5_closedSetsFit_95 : decode cX5_closedSetsFit 95 = .ok (.iconst 1, 1) := by decide +kernel
theorem dX5_closedSetsFit_96 : decode cX5_closedSetsFit 96 = .ok (.goto 4, 3) := by decide +kernel
theorem dX5_closedSetsFit_99 : decode cX5_closedSetsFit 99 = .ok (.iconst 0, 1) := by decide +kernel
theorem dX5_closedSetsFit_100 : decode cX5_closedSetsFit 100 = .ok (.ireturn, 1) := by decide +kernel
theorem dX5_sumsAreUndone_0 : decode cX5_sumsAreUndone 0 = .ok (.iconst 0, 1) := by decide +kernel
theorem dX5_sumsAreUndone_1 : decode cX5_sumsAreUndone 1 = .ok (.istore_n 2, 1) := by decide +kernel
theorem dX5_sumsAreUndone_2 : decode cX5_sumsAreUndone 2 = .ok (.iload_n 2, 1) := by decide +kernel
theorem dX5_sumsAreUndone_3 : decode cX5_sumsAreUndone 3 = .ok (.aload_n 1, 1) := by decide +kernel
theorem dX5_sumsAreUndone_4 : decode cX5_sumsAreUndone 4 = .ok (.getfield 84, 3) := by decide +kernel
theorem dX5_sumsAreUndone_7 : decode cX5_sumsAreUndone 7 = .ok (.if_icmp .ge 41, 3) := by decide +kernel
theorem dX5_sumsAreUndone_10 : decode cX5_sumsAreUndone 10 = .ok (.aload_n 0, 1) := by decide +kernel
theorem dX5_sumsAreUndone_11 : decode cX5_sumsAreUndone 11 = .ok (.getfield 41, 3) := by decide +kernel
theorem dX5_sumsAreUndone_14 : decode cX5_sumsAreUndone 14 = .ok (.aload_n 1, 1) := by decide +kernel
theorem dX5_sumsAreUndone_15 : decode cX5_sumsAreUndone 15 = .ok (.iload_n 2, 1) := by decide +kernel
theorem dX5_sumsAreUndone_16 : decode cX5_sumsAreUndone 16 = .ok (.invokevirtual 197, 3) := by decide +kernel
theorem dX5_sumsAreUndone_19 : decode cX5_sumsAreUndone 19 = .ok (.aload_n 1, 1) := by decide +kernel
theorem dX5_sumsAreUndone_20 : decode cX5_sumsAreUndone 20 = .ok (.getfield 200, 3) := by decide +kernel
theorem dX5_sumsAreUndone_23 : decode cX5_sumsAreUndone 23 = .ok (.iload_n 2, 1) := by decide +kernel
theorem dX5_sumsAreUndone_24 : decode cX5_sumsAreUndone 24 = .ok (.iaload, 1) := by decide +kernel
theorem dX5_sumsAreUndone_25 : decode cX5_sumsAreUndone 25 = .ok (.if_icmp .ne 15, 3) := by decide +kernel
theorem dX5_sumsAreUndone_28 : decode cX5_sumsAreUndone 28 = .ok (.aload_n 0, 1) := by decide +kernel
theorem dX5_sumsAreUndone_29 : decode cX5_sumsAreUndone 29 = .ok (.getfield 41, 3) := by decide +kernel
theorem dX5_sumsAreUndone_32 : decode cX5_sumsAreUndone 32 = .ok (.aload_n 1, 1) := by decide +kernel
theorem dX5_sumsAreUndone_33 : decode cX5_sumsAreUndone 33 = .ok (.iload_n 2, 1) := by decide +kernel
theorem dX5_sumsAreUndone_34 : decode cX5_sumsAreUndone 34 = .ok (.invokevirtual 203, 3) := by decide +kernel
theorem dX5_sumsAreUndone_37 : decode cX5_sumsAreUndone 37 = .ok (.ifCond .ne 5, 3) := by decide +kernel
theorem dX5_sumsAreUndone_40 : decode cX5_sumsAreUndone 40 = .ok (.iconst 0, 1) := by decide +kernel
theorem dX5_sumsAreUndone_41 : decode cX5_sumsAreUndone 41 = .ok (.ireturn, 1) := by decide +kernel
theorem dX5_sumsAreUndone_42 : decode cX5_sumsAreUndone 42 = .ok (.iinc 2 1, 3) := by decide +kernel
theorem dX5_sumsAreUndone_45 : decode cX5_sumsAreUndone 45 = .ok (.goto (-43), 3) := by decide +kernel
theorem dX5_sumsAreUndone_48 : decode cX5_sumsAreUndone 48 = .ok (.iconst 1, 1) := by decide +kernel
theorem dX5_sumsAreUndone_49 : decode cX5_sumsAreUndone 49 = .ok (.ireturn, 1) := by decide +kernel
theorem dX5_sizesTurn_0 : decode cX5_sizesTurn 0 = .ok (.iconst 0, 1) := by decide +kernel
theorem dX5_sizesTurn_1 : decode cX5_sizesTurn 1 = .ok (.istore_n 2, 1) := by decide +kernel
theorem dX5_sizesTurn_2 : decode cX5_sizesTurn 2 = .ok (.iload_n 2, 1) := by decide +kernel
theorem dX5_sizesTurn_3 : decode cX5_sizesTurn 3 = .ok (.bipush 9, 2) := by decide +kernel
theorem dX5_sizesTurn_5 : decode cX5_sizesTurn 5 = .ok (.if_icmp .gt 16, 3) := by decide +kernel
theorem dX5_sizesTurn_8 : decode cX5_sizesTurn 8 = .ok (.aload_n 0, 1) := by decide +kernel
theorem dX5_sizesTurn_9 : decode cX5_sizesTurn 9 = .ok (.getfield 45, 3) := by decide +kernel
theorem dX5_sizesTurn_12 : decode cX5_sizesTurn 12 = .ok (.iload_n 2, 1) := by decide +kernel
theorem dX5_sizesTurn_13 : decode cX5_sizesTurn 13 = .ok (.iconst 0, 1) := by decide +kernel
theorem dX5_sizesTurn_14 : decode cX5_sizesTurn 14 = .ok (.iastore, 1) := by decide +kernel
theorem dX5_sizesTurn_15 : decode cX5_sizesTurn 15 = .ok (.iinc 2 1, 3) := by decide +kernel
theorem dX5_sizesTurn_18 : decode cX5_sizesTurn 18 = .ok (.goto (-16), 3) := by decide +kernel
theorem dX5_sizesTurn_21 : decode cX5_sizesTurn 21 = .ok (.iconst 0, 1) := by decide +kernel
theorem dX5_sizesTurn_22 : decode cX5_sizesTurn 22 = .ok (.istore_n 2, 1) := by decide +kernel
theorem dX5_sizesTurn_23 : decode cX5_sizesTurn 23 = .ok (.iload_n 2, 1) := by decide +kernel
theorem dX5_sizesTurn_24 : decode cX5_sizesTurn 24 = .ok (.aload_n 1, 1) := by decide +kernel
theorem dX5_sizesTurn_25 : decode cX5_sizesTurn 25 = .ok (.invokevirtual 165, 3) := by decide +kernel
theorem dX5_sizesTurn_28 : decode cX5_sizesTurn 28 = .ok (.if_icmp .ge 66, 3) := by decide +kernel
theorem dX5_sizesTurn_31 : decode cX5_sizesTurn 31 = .ok (.iload_n 2, 1) := by decide +kernel
theorem dX5_sizesTurn_32 : decode cX5_sizesTurn 32 = .ok (.invokestatic 212, 3) := by decide +kernel
theorem dX5_sizesTurn_35 : decode cX5_sizesTurn 35 = .ok (.istore_n 3, 1) := by decide +kernel
theorem dX5_sizesTurn_36 : decode cX5_sizesTurn 36 = .ok (.aload_n 0, 1) := by decide +kernel
theorem dX5_sizesTurn_37 : decode cX5_sizesTurn 37 = .ok (.getfield 45, 3) := by decide +kernel
theorem dX5_sizesTurn_40 : decode cX5_sizesTurn 40 = .ok (.aload_n 1, 1) := by decide +kernel
theorem dX5_sizesTurn_41 : decode cX5_sizesTurn 41 = .ok (.getfield 84, 3) := by decide +kernel
theorem dX5_sizesTurn_44 : decode cX5_sizesTurn 44 = .ok (.iload_n 3, 1) := by decide +kernel
theorem dX5_sizesTurn_45 : decode cX5_sizesTurn 45 = .ok (.isub, 1) := by decide +kernel
theorem dX5_sizesTurn_46 : decode cX5_sizesTurn 46 = .ok (.dup2, 1) := by decide +kernel
theorem dX5_sizesTurn_47 : decode cX5_sizesTurn 47 = .ok (.iaload, 1) := by decide +kernel
theorem dX5_sizesTurn_48 : decode cX5_sizesTurn 48 = .ok (.aload_n 1, 1) := by decide +kernel
theorem dX5_sizesTurn_49 : decode cX5_sizesTurn 49 = .ok (.iload_n 2, 1) := by decide +kernel
theorem dX5_sizesTurn_50 : decode cX5_sizesTurn 50 = .ok (.invokevirtual 168, 3) := by decide +kernel
theorem dX5_sizesTurn_53 : decode cX5_sizesTurn 53 = .ok (.ifCond .eq 7, 3) := by decide +kernel
theorem dX5_sizesTurn_56 : decode cX5_sizesTurn 56 = .ok (.iconst 1, 1) := by decide +kernel
theorem dX5_sizesTurn_57 : decode cX5_sizesTurn 57 = .ok (.goto 4, 3) := by decide +kernel
theorem dX5_sizesTurn_60 : decode cX5_sizesTurn 60 = .ok (.iconst 0, 1) := by decide +kernel
theorem dX5_sizesTurn_61 : decode cX5_sizesTurn 61 = .ok (.iadd, 1) := by decide +kernel
theorem dX5_sizesTurn_62 : decode cX5_sizesTurn 62 = .ok (.iastore, 1) := by decide +kernel
theorem dX5_sizesTurn_63 : decode cX5_sizesTurn 63 = .ok (.aload_n 0, 1) := by decide +kernel
theorem dX5_sizesTurn_64 : decode cX5_sizesTurn 64 = .ok (.getfield 45, 3) := by decide +kernel
theorem dX5_sizesTurn_67 : decode cX5_sizesTurn 67 = .ok (.iload_n 3, 1) := by decide +kernel
theorem dX5_sizesTurn_68 : decode cX5_sizesTurn 68 = .ok (.dup2, 1) := by decide +kernel
theorem dX5_sizesTurn_69 : decode cX5_sizesTurn 69 = .ok (.iaload, 1) := by decide +kernel
theorem dX5_sizesTurn_70 : decode cX5_sizesTurn 70 = .ok (.aload_n 0, 1) := by decide +kernel
theorem dX5_sizesTurn_71 : decode cX5_sizesTurn 71 = .ok (.getfield 18, 3) := by decide +kernel
theorem dX5_sizesTurn_74 : decode cX5_sizesTurn 74 = .ok (.iload_n 2, 1) := by decide +kernel
theorem dX5_sizesTurn_75 : decode cX5_sizesTurn 75 = .ok (.invokevirtual 168, 3) := by decide +kernel
theorem dX5_sizesTurn_78 : decode cX5_sizesTurn 78 = .ok (.ifCond .eq 7, 3) := by decide +kernel
theorem dX5_sizesTurn_81 : decode cX5_sizesTurn 81 = .ok (.iconst 1, 1) := by decide +kernel
theorem dX5_sizesTurn_82 : decode cX5_sizesTurn 82 = .ok (.goto 4, 3) := by decide +kernel
theorem dX5_sizesTurn_85 : decode cX5_sizesTurn 85 = .ok (.iconst 0, 1) := by decide +kernel
theorem dX5_sizesTurn_86 : decode cX5_sizesTurn 86 = .ok (.isub, 1) := by decide +kernel
theorem dX5_sizesTurn_87 : decode cX5_sizesTurn 87 = .ok (.iastore, 1) := by decide +kernel
theorem dX5_sizesTurn_88 : decode cX5_sizesTurn 88 = .ok (.iinc 2 1, 3) := by decide +kernel
theorem dX5_sizesTurn_91 : decode cX5_sizesTurn 91 = .ok (.goto (-68), 3) := by decide +kernel
theorem dX5_sizesTurn_94 : decode cX5_sizesTurn 94 = .ok (.iconst 0, 1) := by decide +kernel
theorem dX5_sizesTurn_95 : decode cX5_sizesTurn 95 = .ok (.istore_n 2, 1) := by decide +kernel
theorem dX5_sizesTurn_96 : decode cX5_sizesTurn 96 = .ok (.iload_n 2, 1) := by decide +kernel
theorem dX5_sizesTurn_97 : decode cX5_sizesTurn 97 = .ok (.bipush 9, 2) := by decide +kernel
theorem dX5_sizesTurn_99 : decode cX5_sizesTurn 99 = .ok (.if_icmp .gt 20, 3) := by decide +kernel
theorem dX5_sizesTurn_102 : decode cX5_sizesTurn 102 = .ok (.aload_n 0, 1) := by decide +kernel
theorem dX5_sizesTurn_103 : decode cX5_sizesTurn 103 = .ok (.getfield 45, 3) := by decide +kernel
theorem dX5_sizesTurn_106 : decode cX5_sizesTurn 106 = .ok (.iload_n 2, 1) := by decide +kernel
theorem dX5_sizesTurn_107 : decode cX5_sizesTurn 107 = .ok (.iaload, 1) := by decide +kernel
theorem dX5_sizesTurn_108 : decode cX5_sizesTurn 108 = .ok (.ifCond .eq 5, 3) := by decide +kernel
theorem dX5_sizesTurn_111 : decode cX5_sizesTurn 111 = .ok (.iconst 0, 1) := by decide +kernel
theorem dX5_sizesTurn_112 : decode cX5_sizesTurn 112 = .ok (.ireturn, 1) := by decide +kernel
theorem dX5_sizesTurn_113 : decode cX5_sizesTurn 113 = .ok (.iinc 2 1, 3) := by decide +kernel
theorem dX5_sizesTurn_116 : decode cX5_sizesTurn 116 = .ok (.goto (-20), 3) := by decide +kernel
theorem dX5_sizesTurn_119 : decode cX5_sizesTurn 119 = .ok (.iconst 1, 1) := by decide +kernel
theorem dX5_sizesTurn_120 : decode cX5_sizesTurn 120 = .ok (.ireturn, 1) := by decide +kernel
theorem dX5_turnsRound_0 : decode cX5_turnsRound 0 = .ok (.aload_n 0, 1) := by decide +kernel
theorem dX5_turnsRound_1 : decode cX5_turnsRound 1 = .ok (.getfield 18, 3) := by decide +kernel
theorem dX5_turnsRound_4 : decode cX5_turnsRound 4 = .ok (.aload_n 1, 1) := by decide +kernel
theorem dX5_turnsRound_5 : decode cX5_turnsRound 5 = .ok (.invokevirtual 206, 3) := by decide +kernel
theorem dX5_turnsRound_8 : decode cX5_turnsRound 8 = .ok (.aload_n 0, 1) := by decide +kernel
theorem dX5_turnsRound_9 : decode cX5_turnsRound 9 = .ok (.getfield 12, 3) := by decide +kernel
theorem dX5_turnsRound_12 : decode cX5_turnsRound 12 = .ok (.aload_n 0, 1) := by decide +kernel
theorem dX5_turnsRound_13 : decode cX5_turnsRound 13 = .ok (.getfield 18, 3) := by decide +kernel
theorem dX5_turnsRound_16 : decode cX5_turnsRound 16 = .ok (.invokevirtual 206, 3) := by decide +kernel
theorem dX5_turnsRound_19 : decode cX5_turnsRound 19 = .ok (.aload_n 0, 1) := by decide +kernel
theorem dX5_turnsRound_20 : decode cX5_turnsRound 20 = .ok (.getfield 18, 3) := by decide +kernel
theorem dX5_turnsRound_23 : decode cX5_turnsRound 23 = .ok (.invokestatic 49, 3) := by decide +kernel
theorem dX5_turnsRound_26 : decode cX5_turnsRound 26 = .ok (.ifCond .eq 87, 3) := by decide +kernel
theorem dX5_turnsRound_29 : decode cX5_turnsRound 29 = .ok (.aload_n 0, 1) := by decide +kernel
theorem dX5_turnsRound_30 : decode cX5_turnsRound 30 = .ok (.getfield 12, 3) := by decide +kernel
theorem dX5_turnsRound_33 : decode cX5_turnsRound 33 = .ok (.aload_n 1, 1) := by decide +kernel
theorem dX5_turnsRound_34 : decode cX5_turnsRound 34 = .ok (.invokevirtual 114, 3) := by decide +kernel
theorem dX5_turnsRound_37 : decode cX5_turnsRound 37 = .ok (.ifCond .eq 76, 3) := by decide +kernel
theorem dX5_turnsRound_40 : decode cX5_turnsRound 40 = .ok (.aload_n 0, 1) := by decide +kernel
theorem dX5_turnsRound_41 : decode cX5_turnsRound 41 = .ok (.getfield 28, 3) := by decide +kernel
theorem dX5_turnsRound_44 : decode cX5_turnsRound 44 = .ok (.aload_n 0, 1) := by decide +kernel
theorem dX5_turnsRound_45 : decode cX5_turnsRound 45 = .ok (.getfield 18, 3) := by decide +kernel
theorem dX5_turnsRound_48 : decode cX5_turnsRound 48 = .ok (.invokevirtual 138, 3) := by decide +kernel
theorem dX5_turnsRound_51 : decode cX5_turnsRound 51 = .ok (.aload_n 0, 1) := by decide +kernel
theorem dX5_turnsRound_52 : decode cX5_turnsRound 52 = .ok (.getfield 24, 3) := by decide +kernel
theorem dX5_turnsRound_55 : decode cX5_turnsRound 55 = .ok (.aload_n 1, 1) := by decide +kernel
theorem dX5_turnsRound_56 : decode cX5_turnsRound 56 = .ok (.invokevirtual 138, 3) := by decide +kernel
theorem dX5_turnsRound_59 : decode cX5_turnsRound 59 = .ok (.if_icmp .ne 54, 3) := by decide +kernel
theorem dX5_turnsRound_62 : decode cX5_turnsRound 62 = .ok (.aload_n 0, 1) := by decide +kernel
theorem dX5_turnsRound_63 : decode cX5_turnsRound 63 = .ok (.getfield 18, 3) := by decide +kernel
theorem dX5_turnsRound_66 : decode cX5_turnsRound 66 = .ok (.aload_n 0, 1) := by decide +kernel
theorem dX5_turnsRound_67 : decode cX5_turnsRound 67 = .ok (.getfield 18, 3) := by decide +kernel
theorem dX5_turnsRound_70 : decode cX5_turnsRound 70 = .ok (.invokevirtual 124, 3) := by decide +kernel
theorem dX5_turnsRound_73 : decode cX5_turnsRound 73 = .ok (.invokestatic 161, 3) := by decide +kernel
theorem dX5_turnsRound_76 : decode cX5_turnsRound 76 = .ok (.aload_n 1, 1) := by decide +kernel
theorem dX5_turnsRound_77 : decode cX5_turnsRound 77 = .ok (.aload_n 1, 1) := by decide +kernel
theorem dX5_turnsRound_78 : decode cX5_turnsRound 78 = .ok (.invokevirtual 124, 3) := by decide +kernel
theorem dX5_turnsRound_81 : decode cX5_turnsRound 81 = .ok (.invokestatic 161, 3) := by decide +kernel
theorem dX5_turnsRound_84 : decode cX5_turnsRound 84 = .ok (.if_icmp .ne 29, 3) := by decide +kernel
theorem dX5_turnsRound_87 : decode cX5_turnsRound 87 = .ok (.aload_n 0, 1) := by decide +kernel
theorem dX5_turnsRound_88 : decode cX5_turnsRound 88 = .ok (.getfield 18, 3) := by decide +kernel
theorem dX5_turnsRound_91 : decode cX5_turnsRound 91 = .ok (.invokestatic 155, 3) := by decide +kernel
theorem dX5_turnsRound_94 : decode cX5_turnsRound 94 = .ok (.aload_n 1, 1) := by decide +kernel
theorem dX5_turnsRound_95 : decode cX5_turnsRound 95 = .ok (.invokestatic 155, 3) := by decide +kernel
theorem dX5_turnsRound_98 : decode cX5_turnsRound 98 = .ok (.if_icmp .ne 15, 3) := by decide +kernel
theorem dX5_turnsRound_101 : decode cX5_turnsRound 101 = .ok (.aload_n 0, 1) := by decide +kernel
theorem dX5_turnsRound_102 : decode cX5_turnsRound 102 = .ok (.aload_n 1, 1) := by decide +kernel
theorem dX5_turnsRound_103 : decode cX5_turnsRound 103 = .ok (.invokevirtual 209, 3) := by decide +kernel
theorem dX5_turnsRound_106 : decode cX5_turnsRound 106 = .ok (.ifCond .eq 7, 3) := by decide +kernel
theorem dX5_turnsRound_109 : decode cX5_turnsRound 109 = .ok (.iconst 1, 1) := by decide +kernel
theorem dX5_turnsRound_110 : decode cX5_turnsRound 110 = .ok (.goto 4, 3) := by decide +kernel
theorem dX5_turnsRound_113 : decode cX5_turnsRound 113 = .ok (.iconst 0, 1) := by decide +kernel
theorem dX5_turnsRound_114 : decode cX5_turnsRound 114 = .ok (.ireturn, 1) := by decide +kernel
theorem dX5_holdsFor_0 : decode cX5_holdsFor 0 = .ok (.aload_n 1, 1) := by decide +kernel
theorem dX5_holdsFor_1 : decode cX5_holdsFor 1 = .ok (.invokestatic 49, 3) := by decide +kernel
theorem dX5_holdsFor_4 : decode cX5_holdsFor 4 = .ok (.ifCond .eq 71, 3) := by decide +kernel
theorem dX5_holdsFor_7 : decode cX5_holdsFor 7 = .ok (.aload_n 0, 1) := by decide +kernel
theorem dX5_holdsFor_8 : decode cX5_holdsFor 8 = .ok (.aload_n 1, 1) := by decide +kernel
theorem dX5_holdsFor_9 : decode cX5_holdsFor 9 = .ok (.invokevirtual 53, 3) := by decide +kernel
theorem dX5_holdsFor_12 : decode cX5_holdsFor 12 = .ok (.ifCond .eq 63, 3) := by decide +kernel
theorem dX5_holdsFor_15 : decode cX5_holdsFor 15 = .ok (.aload_n 0, 1) := by decide +kernel
theorem dX5_holdsFor_16 : decode cX5_holdsFor 16 = .ok (.aload_n 1, 1) := by decide +kernel
theorem dX5_holdsFor_17 : decode cX5_holdsFor 17 = .ok (.invokevirtual 56, 3) := by decide +kernel
theorem dX5_holdsFor_20 : decode cX5_holdsFor 20 = .ok (.ifCond .eq 55, 3) := by decide +kernel
theorem dX5_holdsFor_23 : decode cX5_holdsFor 23 = .ok (.aload_n 0, 1) := by decide +kernel
theorem dX5_holdsFor_24 : decode cX5_holdsFor 24 = .ok (.aload_n 1, 1) := by decide +kernel
theorem dX5_holdsFor_25 : decode cX5_holdsFor 25 = .ok (.invokevirtual 59, 3) := by decide +kernel
theorem dX5_holdsFor_28 : decode cX5_holdsFor 28 = .ok (.ifCond .eq 47, 3) := by decide +kernel
theorem dX5_holdsFor_31 : decode cX5_holdsFor 31 = .ok (.aload_n 0, 1) := by decide +kernel
theorem dX5_holdsFor_32 : decode cX5_holdsFor 32 = .ok (.aload_n 1, 1) := by decide +kernel
theorem dX5_holdsFor_33 : decode cX5_holdsFor 33 = .ok (.invokevirtual 62, 3) := by decide +kernel
theorem dX5_holdsFor_36 : decode cX5_holdsFor 36 = .ok (.ifCond .eq 39, 3) := by decide +kernel
theorem dX5_holdsFor_39 : decode cX5_holdsFor 39 = .ok (.aload_n 0, 1) := by decide +kernel
theorem dX5_holdsFor_40 : decode cX5_holdsFor 40 = .ok (.aload_n 1, 1) := by decide +kernel
theorem dX5_holdsFor_41 : decode cX5_holdsFor 41 = .ok (.invokevirtual 65, 3) := by decide +kernel
theorem dX5_holdsFor_44 : decode cX5_holdsFor 44 = .ok (.ifCond .eq 31, 3) := by decide +kernel
theorem dX5_holdsFor_47 : decode cX5_holdsFor 47 = .ok (.aload_n 0, 1) := by decide +kernel
theorem dX5_holdsFor_48 : decode cX5_holdsFor 48 = .ok (.aload_n 1, 1) := by decide +kernel
theorem dX5_holdsFor_49 : decode cX5_holdsFor 49 = .ok (.invokevirtual 68, 3) := by decide +kernel
theorem dX5_holdsFor_52 : decode cX5_holdsFor 52 = .ok (.ifCond .eq 23, 3) := by decide +kernel
theorem dX5_holdsFor_55 : decode cX5_holdsFor 55 = .ok (.aload_n 0, 1) := by decide +kernel
theorem dX5_holdsFor_56 : decode cX5_holdsFor 56 = .ok (.aload_n 1, 1) := by decide +kernel
theorem dX5_holdsFor_57 : decode cX5_holdsFor 57 = .ok (.invokevirtual 71, 3) := by decide +kernel
theorem dX5_holdsFor_60 : decode cX5_holdsFor 60 = .ok (.ifCond .eq 15, 3) := by decide +kernel
theorem dX5_holdsFor_63 : decode cX5_holdsFor 63 = .ok (.aload_n 0, 1) := by decide +kernel
theorem dX5_holdsFor_64 : decode cX5_holdsFor 64 = .ok (.aload_n 1, 1) := by decide +kernel
theorem dX5_holdsFor_65 : decode cX5_holdsFor 65 = .ok (.invokevirtual 74, 3) := by decide +kernel
theorem dX5_holdsFor_68 : decode cX5_holdsFor 68 = .ok (.ifCond .eq 7, 3) := by decide +kernel
theorem dX5_holdsFor_71 : decode cX5_holdsFor 71 = .ok (.iconst 1, 1) := by decide +kernel
theorem dX5_holdsFor_72 : decode cX5_holdsFor 72 = .ok (.goto 4, 3) := by decide +kernel
theorem dX5_holdsFor_75 : decode cX5_holdsFor 75 = .ok (.iconst 0, 1) := by decide +kernel
theorem dX5_holdsFor_76 : decode cX5_holdsFor 76 = .ok (.ireturn, 1) := by decide +kernel
theorem dX5_waysToChoose_0 : decode cX5_waysToChoose 0 = .ok (.iconst 1, 1) := by decide +kernel
theorem dX5_waysToChoose_1 : decode cX5_waysToChoose 1 = .ok (.istore_n 2, 1) := by decide +kernel
theorem dX5_waysToChoose_2 : decode cX5_waysToChoose 2 = .ok (.iconst 1, 1) := by decide +kernel
theorem dX5_waysToChoose_3 : decode cX5_waysToChoose 3 = .ok (.istore_n 3, 1) := by decide +kernel
theorem dX5_waysToChoose_4 : decode cX5_waysToChoose 4 = .ok (.iload_n 3, 1) := by decide +kernel
theorem dX5_waysToChoose_5 : decode cX5_waysToChoose 5 = .ok (.iload_n 1, 1) := by decide +kernel
theorem dX5_waysToChoose_6 : decode cX5_waysToChoose 6 = .ok (.if_icmp .gt 17, 3) := by decide +kernel
theorem dX5_waysToChoose_9 : decode cX5_waysToChoose 9 = .ok (.iload_n 2, 1) := by decide +kernel
theorem dX5_waysToChoose_10 : decode cX5_waysToChoose 10 = .ok (.iload_n 0, 1) := by decide +kernel
theorem dX5_waysToChoose_11 : decode cX5_waysToChoose 11 = .ok (.iload_n 3, 1) := by decide +kernel
theorem dX5_waysToChoose_12 : decode cX5_waysToChoose 12 = .ok (.iadd, 1) := by decide +kernel
theorem dX5_waysToChoose_13 : decode cX5_waysToChoose 13 = .ok (.imul, 1) := by decide +kernel
theorem dX5_waysToChoose_14 : decode cX5_waysToChoose 14 = .ok (.iload_n 3, 1) := by decide +kernel
theorem dX5_waysToChoose_15 : decode cX5_waysToChoose 15 = .ok (.idiv, 1) := by decide +kernel
theorem dX5_waysToChoose_16 : decode cX5_waysToChoose 16 = .ok (.istore_n 2, 1) := by decide +kernel
theorem dX5_waysToChoose_17 : decode cX5_waysToChoose 17 = .ok (.iinc 3 1, 3) := by decide +kernel
theorem dX5_waysToChoose_20 : decode cX5_waysToChoose 20 = .ok (.goto (-16), 3) := by decide +kernel
theorem dX5_waysToChoose_23 : decode cX5_waysToChoose 23 = .ok (.iload_n 2, 1) := by decide +kernel
theorem dX5_waysToChoose_24 : decode cX5_waysToChoose 24 = .ok (.ireturn, 1) := by decide +kernel
theorem dX5_longestOf_0 : decode cX5_longestOf 0 = .ok (.aload_n 0, 1) := by decide +kernel
theorem dX5_longestOf_1 : decode cX5_longestOf 1 = .ok (.aload_n 0, 1) := by decide +kernel
theorem dX5_longestOf_2 : decode cX5_longestOf 2 = .ok (.invokevirtual 124, 3) := by decide +kernel
theorem dX5_longestOf_5 : decode cX5_longestOf 5 = .ok (.invokestatic 161, 3) := by decide +kernel
theorem dX5_longestOf_8 : decode cX5_longestOf 8 = .ok (.ireturn, 1) := by decide +kernel
theorem dX5_besideFits_0 : decode cX5_besideFits 0 = .ok (.aload_n 0, 1) := by decide +kernel
theorem dX5_besideFits_1 : decode cX5_besideFits 1 = .ok (.getfield 12, 3) := by decide +kernel
theorem dX5_besideFits_4 : decode cX5_besideFits 4 = .ok (.aload_n 1, 1) := by decide +kernel
theorem dX5_besideFits_5 : decode cX5_besideFits 5 = .ok (.aload_n 2, 1) := by decide +kernel
theorem dX5_besideFits_6 : decode cX5_besideFits 6 = .ok (.iconst 0, 1) := by decide +kernel
theorem dX5_besideFits_7 : decode cX5_besideFits 7 = .ok (.invokevirtual 217, 3) := by decide +kernel
theorem dX5_besideFits_10 : decode cX5_besideFits 10 = .ok (.aload_n 1, 1) := by decide +kernel
theorem dX5_besideFits_11 : decode cX5_besideFits 11 = .ok (.getfield 84, 3) := by decide +kernel
theorem dX5_besideFits_14 : decode cX5_besideFits 14 = .ok (.aload_n 2, 1) := by decide +kernel
theorem dX5_besideFits_15 : decode cX5_besideFits 15 = .ok (.getfield 84, 3) := by decide +kernel
theorem dX5_besideFits_18 : decode cX5_besideFits 18 = .ok (.invokestatic 221, 3) := by decide +kernel
theorem dX5_besideFits_21 : decode cX5_besideFits 21 = .ok (.istore_n 3, 1) := by decide +kernel
theorem dX5_besideFits_22 : decode cX5_besideFits 22 = .ok (.aload_n 0, 1) := by decide +kernel
theorem dX5_besideFits_23 : decode cX5_besideFits 23 = .ok (.getfield 28, 3) := by decide +kernel
theorem dX5_besideFits_26 : decode cX5_besideFits 26 = .ok (.aload_n 0, 1) := by decide +kernel
theorem dX5_besideFits_27 : decode cX5_besideFits 27 = .ok (.getfield 12, 3) := by decide +kernel
theorem dX5_besideFits_30 : decode cX5_besideFits 30 = .ok (.invokevirtual 138, 3) := by decide +kernel
theorem dX5_besideFits_33 : decode cX5_besideFits 33 = .ok (.aload_n 0, 1) := by decide +kernel
theorem dX5_besideFits_34 : decode cX5_besideFits 34 = .ok (.getfield 24, 3) := by decide +kernel
theorem dX5_besideFits_37 : decode cX5_besideFits 37 = .ok (.aload_n 1, 1) := by decide +kernel
theorem dX5_besideFits_38 : decode cX5_besideFits 38 = .ok (.invokevirtual 138, 3) := by decide +kernel
theorem dX5_besideFits_41 : decode cX5_besideFits 41 = .ok (.aload_n 0, 1) := by decide +kernel
theorem dX5_besideFits_42 : decode cX5_besideFits 42 = .ok (.getfield 24, 3) := by decide +kernel
theorem dX5_besideFits_45 : decode cX5_besideFits 45 = .ok (.aload_n 2, 1) := by decide +kernel
theorem dX5_besideFits_46 : decode cX5_besideFits 46 = .ok (.invokevirtual 138, 3) := by decide +kernel
theorem dX5_besideFits_49 : decode cX5_besideFits 49 = .ok (.imul, 1) := by decide +kernel
theorem dX5_besideFits_50 : decode cX5_besideFits 50 = .ok (.iload_n 3, 1) := by decide +kernel
theorem dX5_besideFits_51 : decode cX5_besideFits 51 = .ok (.imul, 1) := by decide +kernel
theorem dX5_besideFits_52 : decode cX5_besideFits 52 = .ok (.if_icmp .ne 66, 3) := by decide +kernel
theorem dX5_besideFits_55 : decode cX5_besideFits 55 = .ok (.aload_n 0, 1) := by decide +kernel
theorem dX5_besideFits_56 : decode cX5_besideFits 56 = .ok (.getfield 12, 3) := by decide +kernel
theorem dX5_besideFits_59 : decode cX5_besideFits 59 = .ok (.invokestatic 182, 3) := by decide +kernel
theorem dX5_besideFits_62 : decode cX5_besideFits 62 = .ok (.aload_n 1, 1) := by decide +kernel
theorem dX5_besideFits_63 : decode cX5_besideFits 63 = .ok (.invokestatic 182, 3) := by decide +kernel
theorem dX5_besideFits_66 : decode cX5_besideFits 66 = .ok (.aload_n 2, 1) := by decide +kernel
theorem dX5_besideFits_67 : decode cX5_besideFits 67 = .ok (.invokestatic 182, 3) := by decide +kernel
theorem dX5_besideFits_70 : decode cX5_besideFits 70 = .ok (.imul, 1) := by decide +kernel
theorem dX5_besideFits_71 : decode cX5_besideFits 71 = .ok (.if_icmp .ne 47, 3) := by decide +kernel
theorem dX5_besideFits_74 : decode cX5_besideFits 74 = .ok (.aload_n 0, 1) := by decide +kernel
theorem dX5_besideFits_75 : decode cX5_besideFits 75 = .ok (.getfield 12, 3) := by decide +kernel
theorem dX5_besideFits_78 : decode cX5_besideFits 78 = .ok (.invokestatic 155, 3) := by decide +kernel
theorem dX5_besideFits_81 : decode cX5_besideFits 81 = .ok (.aload_n 1, 1) := by decide +kernel
theorem dX5_besideFits_82 : decode cX5_besideFits 82 = .ok (.invokestatic 155, 3) := by decide +kernel
theorem dX5_besideFits_85 : decode cX5_besideFits 85 = .ok (.aload_n 2, 1) := by decide +kernel
theorem dX5_besideFits_86 : decode cX5_besideFits 86 = .ok (.invokestatic 155, 3) := by decide +kernel
theorem dX5_besideFits_89 : decode cX5_besideFits 89 = .ok (.iadd, 1) := by decide +kernel
theorem dX5_besideFits_90 : decode cX5_besideFits 90 = .ok (.if_icmp .ne 28, 3) := by decide +kernel
theorem dX5_besideFits_93 : decode cX5_besideFits 93 = .ok (.aload_n 0, 1) := by decide +kernel
theorem dX5_besideFits_94 : decode cX5_besideFits 94 = .ok (.getfield 12, 3) := by decide +kernel
theorem dX5_besideFits_97 : decode cX5_besideFits 97 = .ok (.invokestatic 224, 3) := by decide +kernel
theorem dX5_besideFits_100 : decode cX5_besideFits 100 = .ok (.aload_n 1, 1) := by decide +kernel
theorem dX5_besideFits_101 : decode cX5_besideFits 101 = .ok (.invokestatic 224, 3) := by decide +kernel
theorem dX5_besideFits_104 : decode cX5_besideFits 104 = .ok (.aload_n 2, 1) := by decide +kernel
theorem dX5_besideFits_105 : decode cX5_besideFits 105 = .ok (.invokestatic 224, 3) := by decide +kernel
theorem dX5_besideFits_108 : decode cX5_besideFits 108 = .ok (.invokestatic 227, 3) := by decide +kernel
theorem dX5_besideFits_111 : decode cX5_besideFits 111 = .ok (.if_icmp .ne 7, 3) := by decide +kernel
theorem dX5_besideFits_114 : decode cX5_besideFits 114 = .ok (.iconst 1, 1) := by decide +kernel
theorem dX5_besideFits_115 : decode cX5_besideFits 115 = .ok (.goto 4, 3) := by decide +kernel
theorem dX5_besideFits_118 : decode cX5_besideFits 118 = .ok (.iconst 0, 1) := by decide +kernel
theorem dX5_besideFits_119 : decode cX5_besideFits 119 = .ok (.ireturn, 1) := by decide +kernel
theorem dX5_aboveFits_0 : decode cX5_aboveFits 0 = .ok (.aload_n 0, 1) := by decide +kernel
theorem dX5_aboveFits_1 : decode cX5_aboveFits 1 = .ok (.getfield 12, 3) := by decide +kernel
theorem dX5_aboveFits_4 : decode cX5_aboveFits 4 = .ok (.aload_n 1, 1) := by decide +kernel
theorem dX5_aboveFits_5 : decode cX5_aboveFits 5 = .ok (.aload_n 2, 1) := by decide +kernel
theorem dX5_aboveFits_6 : decode cX5_aboveFits 6 = .ok (.iconst 1, 1) := by decide +kernel
theorem dX5_aboveFits_7 : decode cX5_aboveFits 7 = .ok (.invokevirtual 217, 3) := by decide +kernel
theorem dX5_aboveFits_10 : decode cX5_aboveFits 10 = .ok (.aload_n 0, 1) := by decide +kernel
theorem dX5_aboveFits_11 : decode cX5_aboveFits 11 = .ok (.getfield 28, 3) := by decide +kernel
theorem dX5_aboveFits_14 : decode cX5_aboveFits 14 = .ok (.aload_n 0, 1) := by decide +kernel
theorem dX5_aboveFits_15 : decode cX5_aboveFits 15 = .ok (.getfield 12, 3) := by decide +kernel
theorem dX5_aboveFits_18 : decode cX5_aboveFits 18 = .ok (.invokevirtual 138, 3) := by decide +kernel
theorem dX5_aboveFits_21 : decode cX5_aboveFits 21 = .ok (.aload_n 0, 1) := by decide +kernel
theorem dX5_aboveFits_22 : decode cX5_aboveFits 22 = .ok (.getfield 24, 3) := by decide +kernel
theorem dX5_aboveFits_25 : decode cX5_aboveFits 25 = .ok (.aload_n 1, 1) := by decide +kernel
theorem dX5_aboveFits_26 : decode cX5_aboveFits 26 = .ok (.invokevirtual 138, 3) := by decide +kernel
theorem dX5_aboveFits_29 : decode cX5_aboveFits 29 = .ok (.aload_n 0, 1) := by decide +kernel
theorem dX5_aboveFits_30 : decode cX5_aboveFits 30 = .ok (.getfield 24, 3) := by decide +kernel
theorem dX5_aboveFits_33 : decode cX5_aboveFits 33 = .ok (.aload_n 2, 1) := by decide +kernel
theorem dX5_aboveFits_34 : decode cX5_aboveFits 34 = .ok (.invokevirtual 138, 3) := by decide +kernel
theorem dX5_aboveFits_37 : decode cX5_aboveFits 37 = .ok (.imul, 1) := by decide +kernel
theorem dX5_aboveFits_38 : decode cX5_aboveFits 38 = .ok (.if_icmp .ne 68, 3) := by decide +kernel
theorem dX5_aboveFits_41 : decode cX5_aboveFits 41 = .ok (.aload_n 0, 1) := by decide +kernel
theorem dX5_aboveFits_42 : decode cX5_aboveFits 42 = .ok (.getfield 12, 3) := by decide +kernel
theorem dX5_aboveFits_45 : decode cX5_aboveFits 45 = .ok (.invokestatic 182, 3) := by decide +kernel
theorem dX5_aboveFits_48 : decode cX5_aboveFits 48 = .ok (.aload_n 1, 1) := by decide +kernel
theorem dX5_aboveFits_49 : decode cX5_aboveFits 49 = .ok (.invokestatic 182, 3) := by decide +kernel
theorem dX5_aboveFits_52 : decode cX5_aboveFits 52 = .ok (.aload_n 2, 1) := by decide +kernel
theorem dX5_aboveFits_53 : decode cX5_aboveFits 53 = .ok (.invokestatic 182, 3) := by decide +kernel
theorem dX5_aboveFits_56 : decode cX5_aboveFits 56 = .ok (.iadd, 1) := by decide +kernel
theorem dX5_aboveFits_57 : decode cX5_aboveFits 57 = .ok (.iconst 1, 1) := by decide +kernel
theorem dX5_aboveFits_58 : decode cX5_aboveFits 58 = .ok (.isub, 1) := by decide +kernel
theorem dX5_aboveFits_59 : decode cX5_aboveFits 59 = .ok (.if_icmp .ne 47, 3) := by decide +kernel
theorem dX5_aboveFits_62 : decode cX5_aboveFits 62 = .ok (.aload_n 0, 1) := by decide +kernel
theorem dX5_aboveFits_63 : decode cX5_aboveFits 63 = .ok (.getfield 12, 3) := by decide +kernel
theorem dX5_aboveFits_66 : decode cX5_aboveFits 66 = .ok (.invokestatic 155, 3) := by decide +kernel
theorem dX5_aboveFits_69 : decode cX5_aboveFits 69 = .ok (.aload_n 1, 1) := by decide +kernel
theorem dX5_aboveFits_70 : decode cX5_aboveFits 70 = .ok (.invokestatic 155, 3) := by decide +kernel
theorem dX5_aboveFits_73 : decode cX5_aboveFits 73 = .ok (.aload_n 2, 1) := by decide +kernel
theorem dX5_aboveFits_74 : decode cX5_aboveFits 74 = .ok (.invokestatic 155, 3) := by decide +kernel
theorem dX5_aboveFits_77 : decode cX5_aboveFits 77 = .ok (.invokestatic 227, 3) := by decide +kernel
theorem dX5_aboveFits_80 : decode cX5_aboveFits 80 = .ok (.if_icmp .ne 26, 3) := by decide +kernel
theorem dX5_aboveFits_83 : decode cX5_aboveFits 83 = .ok (.aload_n 0, 1) := by decide +kernel
theorem dX5_aboveFits_84 : decode cX5_aboveFits 84 = .ok (.getfield 12, 3) := by decide +kernel
theorem dX5_aboveFits_87 : decode cX5_aboveFits 87 = .ok (.invokestatic 224, 3) := by decide +kernel
theorem dX5_aboveFits_90 : decode cX5_aboveFits 90 = .ok (.aload_n 1, 1) := by decide +kernel
theorem dX5_aboveFits_91 : decode cX5_aboveFits 91 = .ok (.invokestatic 224, 3) := by decide +kernel
theorem dX5_aboveFits_94 : decode cX5_aboveFits 94 = .ok (.aload_n 2, 1) := by decide +kernel
theorem dX5_aboveFits_95 : decode cX5_aboveFits 95 = .ok (.invokestatic 224, 3) := by decide +kernel
theorem dX5_aboveFits_98 : decode cX5_aboveFits 98 = .ok (.iadd, 1) := by decide +kernel
theorem dX5_aboveFits_99 : decode cX5_aboveFits 99 = .ok (.if_icmp .ne 7, 3) := by decide +kernel
theorem dX5_aboveFits_102 : decode cX5_aboveFits 102 = .ok (.iconst 1, 1) := by decide +kernel
theorem dX5_aboveFits_103 : decode cX5_aboveFits 103 = .ok (.goto 4, 3) := by decide +kernel
theorem dX5_aboveFits_106 : decode cX5_aboveFits 106 = .ok (.iconst 0, 1) := by decide +kernel
theorem dX5_aboveFits_107 : decode cX5_aboveFits 107 = .ok (.ireturn, 1) := by decide +kernel
theorem dX5_holdsForBoth_0 : decode cX5_holdsForBoth 0 = .ok (.aload_n 0, 1) := by decide +kernel
theorem dX5_holdsForBoth_1 : decode cX5_holdsForBoth 1 = .ok (.aload_n 1, 1) := by decide +kernel
theorem dX5_holdsForBoth_2 : decode cX5_holdsForBoth 2 = .ok (.aload_n 2, 1) := by decide +kernel
theorem dX5_holdsForBoth_3 : decode cX5_holdsForBoth 3 = .ok (.invokevirtual 77, 3) := by decide +kernel
theorem dX5_holdsForBoth_6 : decode cX5_holdsForBoth 6 = .ok (.ifCond .eq 16, 3) := by decide +kernel
theorem dX5_holdsForBoth_9 : decode cX5_holdsForBoth 9 = .ok (.aload_n 0, 1) := by decide +kernel
theorem dX5_holdsForBoth_10 : decode cX5_holdsForBoth 10 = .ok (.aload_n 1, 1) := by decide +kernel
theorem dX5_holdsForBoth_11 : decode cX5_holdsForBoth 11 = .ok (.aload_n 2, 1) := by decide +kernel
theorem dX5_holdsForBoth_12 : decode cX5_holdsForBoth 12 = .ok (.invokevirtual 81, 3) := by decide +kernel
theorem dX5_holdsForBoth_15 : decode cX5_holdsForBoth 15 = .ok (.ifCond .eq 7, 3) := by decide +kernel
theorem dX5_holdsForBoth_18 : decode cX5_holdsForBoth 18 = .ok (.iconst 1, 1) := by decide +kernel
theorem dX5_holdsForBoth_19 : decode cX5_holdsForBoth 19 = .ok (.goto 4, 3) := by decide +kernel
theorem dX5_holdsForBoth_22 : decode cX5_holdsForBoth 22 = .ok (.iconst 0, 1) := by decide +kernel
theorem dX5_holdsForBoth_23 : decode cX5_holdsForBoth 23 = .ok (.ireturn, 1) := by decide +kernel
theorem dX6_mixedIn_0 : decode cX6_mixedIn 0 = .ok (.ldc2_w 277, 3) := by decide +kernel
theorem dX6_mixedIn_3 : decode cX6_mixedIn 3 = .ok (.lload_n 1, 1) := by decide +kernel
theorem dX6_mixedIn_4 : decode cX6_mixedIn 4 = .ok (.lmul, 1) := by decide +kernel
theorem dX6_mixedIn_5 : decode cX6_mixedIn 5 = .ok (.aload_n 3, 1) := by decide +kernel
theorem dX6_mixedIn_6 : decode cX6_mixedIn 6 = .ok (.getfield 56, 3) := by decide +kernel
theorem dX6_mixedIn_9 : decode cX6_mixedIn 9 = .ok (.i2l, 1) := by decide +kernel
theorem dX6_mixedIn_10 : decode cX6_mixedIn 10 = .ok (.ladd, 1) := by decide +kernel
theorem dX6_mixedIn_11 : decode cX6_mixedIn 11 = .ok (.lstore 4, 2) := by decide +kernel
theorem dX6_mixedIn_13 : decode cX6_mixedIn 13 = .ok (.iconst 0, 1) := by decide +kernel
theorem dX6_mixedIn_14 : decode cX6_mixedIn 14 = .ok (.istore 6, 2) := by decide +kernel
theorem dX6_mixedIn_16 : decode cX6_mixedIn 16 = .ok (.iload 6, 2) := by decide +kernel
theorem dX6_mixedIn_18 : decode cX6_mixedIn 18 = .ok (.aload_n 3, 1) := by decide +kernel
theorem dX6_mixedIn_19 : decode cX6_mixedIn 19 = .ok (.getfield 56, 3) := by decide +kernel
theorem dX6_mixedIn_22 : decode cX6_mixedIn 22 = .ok (.if_icmp .ge 43, 3) := by decide +kernel
theorem dX6_mixedIn_25 : decode cX6_mixedIn 25 = .ok (.ldc2_w 277, 3) := by decide +kernel
theorem dX6_mixedIn_28 : decode cX6_mixedIn 28 = .ok (.lload 4, 2) := by decide +kernel
theorem dX6_mixedIn_30 : decode cX6_mixedIn 30 = .ok (.lmul, 1) := by decide +kernel
theorem dX6_mixedIn_31 : decode cX6_mixedIn 31 = .ok (.aload_n 3, 1) := by decide +kernel
theorem dX6_mixedIn_32 : decode cX6_mixedIn 32 = .ok (.getfield 149, 3) := by decide +kernel
theorem dX6_mixedIn_35 : decode cX6_mixedIn 35 = .ok (.iload 6, 2) := by decide +kernel
theorem dX6_mixedIn_37 : decode cX6_mixedIn 37 = .ok (.iaload, 1) := by decide +kernel
theorem dX6_mixedIn_38 : decode cX6_mixedIn 38 = .ok (.i2l, 1) := by decide +kernel
theorem dX6_mixedIn_39 : decode cX6_mixedIn 39 = .ok (.ladd, 1) := by decide +kernel
theorem dX6_mixedIn_40 : decode cX6_mixedIn 40 = .ok (.lstore 4, 2) := by decide +kernel
theorem dX6_mixedIn_42 : decode cX6_mixedIn 42 = .ok (.ldc2_w 277, 3) := by decide +kernel
theorem dX6_mixedIn_45 : decode cX6_mixedIn 45 = .ok (.lload 4, 2) := by decide +kernel
theorem dX6_mixedIn_47 : decode cX6_mixedIn 47 = .ok (.lmul, 1) := by decide +kernel
theorem dX6_mixedIn_48 : decode cX6_mixedIn 48 = .ok (.aload_n 3, 1) := by decide +kernel
theorem dX6_mixedIn_49 : decode cX6_mixedIn 49 = .ok (.getfield 88, 3) := by decide +kernel
theorem dX6_mixedIn_52 : decode cX6_mixedIn 52 = .ok (.iload 6, 2) := by decide +kernel
theorem dX6_mixedIn_54 : decode cX6_mixedIn 54 = .ok (.iaload, 1) := by decide +kernel
theorem dX6_mixedIn_55 : decode cX6_mixedIn 55 = .ok (.i2l, 1) := by decide +kernel
theorem dX6_mixedIn_56 : decode cX6_mixedIn 56 = .ok (.ladd, 1) := by decide +kernel
theorem dX6_mixedIn_57 : decode cX6_mixedIn 57 = .ok (.lstore 4, 2) := by decide +kernel
theorem dX6_mixedIn_59 : decode cX6_mixedIn 59 = .ok (.iinc 6 1, 3) := by decide +kernel
theorem dX6_mixedIn_62 : decode cX6_mixedIn 62 = .ok (.goto (-46), 3) := by decide +kernel
theorem dX6_mixedIn_65 : decode cX6_mixedIn 65 = .ok (.ldc2_w 277, 3) := by decide +kernel
theorem dX6_mixedIn_68 : decode cX6_mixedIn 68 = .ok (.lload 4, 2) := by decide +kernel
theorem dX6_mixedIn_70 : decode cX6_mixedIn 70 = .ok (.lmul, 1) := by decide +kernel
theorem dX6_mixedIn_71 : decode cX6_mixedIn 71 = .ok (.aload_n 3, 1) := by decide +kernel
theorem dX6_mixedIn_72 : decode cX6_mixedIn 72 = .ok (.invokestatic 189, 3) := by decide +kernel
theorem dX6_mixedIn_75 : decode cX6_mixedIn 75 = .ok (.i2l, 1) := by decide +kernel
theorem dX6_mixedIn_76 : decode cX6_mixedIn 76 = .ok (.ladd, 1) := by decide +kernel
theorem dX6_mixedIn_77 : decode cX6_mixedIn 77 = .ok (.lstore 4, 2) := by decide +kernel
theorem dX6_mixedIn_79 : decode cX6_mixedIn 79 = .ok (.ldc2_w 277, 3) := by decide +kernel
theorem dX6_mixedIn_82 : decode cX6_mixedIn 82 = .ok (.lload 4, 2) := by decide +kernel
theorem dX6_mixedIn_84 : decode cX6_mixedIn 84 = .ok (.lmul, 1) := by decide +kernel
theorem dX6_mixedIn_85 : decode cX6_mixedIn 85 = .ok (.aload_n 0, 1) := by decide +kernel
theorem dX6_mixedIn_86 : decode cX6_mixedIn 86 = .ok (.getfield 30, 3) := by decide +kernel
theorem dX6_mixedIn_89 : decode cX6_mixedIn 89 = .ok (.aload_n 3, 1) := by decide +kernel
theorem dX6_mixedIn_90 : decode cX6_mixedIn 90 = .ok (.invokevirtual 231, 3) := by decide +kernel
theorem dX6_mixedIn_93 : decode cX6_mixedIn 93 = .ok (.i2l, 1) := by decide +kernel
theorem dX6_mixedIn_94 : decode cX6_mixedIn 94 = .ok (.ladd, 1) := by decide +kernel
theorem dX6_mixedIn_95 : decode cX6_mixedIn 95 = .ok (.lstore 4, 2) := by decide +kernel
theorem dX6_mixedIn_97 : decode cX6_mixedIn 97 = .ok (.ldc2_w 277, 3) := by decide +kernel
theorem dX6_mixedIn_100 : decode cX6_mixedIn 100 = .ok (.lload 4, 2) := by decide +kernel
theorem dX6_mixedIn_102 : decode cX6_mixedIn 102 = .ok (.lmul, 1) := by decide +kernel
theorem dX6_mixedIn_103 : decode cX6_mixedIn 103 = .ok (.aload_n 3, 1) := by decide +kernel
theorem dX6_mixedIn_104 : decode cX6_mixedIn 104 = .ok (.invokestatic 176, 3) := by decide +kernel
theorem dX6_mixedIn_107 : decode cX6_mixedIn 107 = .ok (.i2l, 1) := by decide +kernel
theorem dX6_mixedIn_108 : decode cX6_mixedIn 108 = .ok (.ladd, 1) := by decide +kernel
theorem dX6_mixedIn_109 : decode cX6_mixedIn 109 = .ok (.lstore 4, 2) := by decide +kernel
theorem dX6_mixedIn_111 : decode cX6_mixedIn 111 = .ok (.ldc2_w 277, 3) := by decide +kernel
theorem dX6_mixedIn_114 : decode cX6_mixedIn 114 = .ok (.lload 4, 2) := by decide +kernel
theorem dX6_mixedIn_116 : decode cX6_mixedIn 116 = .ok (.lmul, 1) := by decide +kernel
theorem dX6_mixedIn_117 : decode cX6_mixedIn 117 = .ok (.aload_n 3, 1) := by decide +kernel
theorem dX6_mixedIn_118 : decode cX6_mixedIn 118 = .ok (.aload_n 3, 1) := by decide +kernel
theorem dX6_mixedIn_119 : decode cX6_mixedIn 119 = .ok (.invokevirtual 92, 3) := by decide +kernel
theorem dX6_mixedIn_122 : decode cX6_mixedIn 122 = .ok (.invokestatic 172, 3) := by decide +kernel
theorem dX6_mixedIn_125 : decode cX6_mixedIn 125 = .ok (.i2l, 1) := by decide +kernel
theorem dX6_mixedIn_126 : decode cX6_mixedIn 126 = .ok (.ladd, 1) := by decide +kernel
theorem dX6_mixedIn_127 : decode cX6_mixedIn 127 = .ok (.lreturn, 1) := by decide +kernel
theorem dX6_checksum_0 : decode cX6_checksum 0 = .ok (.ldc2_w 271, 3) := by decide +kernel
theorem dX6_checksum_3 : decode cX6_checksum 3 = .ok (.lstore_n 1, 1) := by decide +kernel
theorem dX6_checksum_4 : decode cX6_checksum 4 = .ok (.iconst 0, 1) := by decide +kernel
theorem dX6_checksum_5 : decode cX6_checksum 5 = .ok (.istore_n 3, 1) := by decide +kernel
theorem dX6_checksum_6 : decode cX6_checksum 6 = .ok (.iload_n 3, 1) := by decide +kernel
theorem dX6_checksum_7 : decode cX6_checksum 7 = .ok (.iconst 4, 1) := by decide +kernel
theorem dX6_checksum_8 : decode cX6_checksum 8 = .ok (.if_icmp .ge 21, 3) := by decide +kernel
theorem dX6_checksum_11 : decode cX6_checksum 11 = .ok (.aload_n 0, 1) := by decide +kernel
theorem dX6_checksum_12 : decode cX6_checksum 12 = .ok (.lload_n 1, 1) := by decide +kernel
theorem dX6_checksum_13 : decode cX6_checksum 13 = .ok (.aload_n 0, 1) := by decide +kernel
theorem dX6_checksum_14 : decode cX6_checksum 14 = .ok (.getfield 11, 3) := by decide +kernel
theorem dX6_checksum_17 : decode cX6_checksum 17 = .ok (.iload_n 3, 1) := by decide +kernel
theorem dX6_checksum_18 : decode cX6_checksum 18 = .ok (.aaload, 1) := by decide +kernel
theorem dX6_checksum_19 : decode cX6_checksum 19 = .ok (.invokevirtual 273, 3) := by decide +kernel
theorem dX6_checksum_22 : decode cX6_checksum 22 = .ok (.lstore_n 1, 1) := by decide +kernel
theorem dX6_checksum_23 : decode cX6_checksum 23 = .ok (.iinc 3 1, 3) := by decide +kernel
theorem dX6_checksum_26 : decode cX6_checksum 26 = .ok (.goto (-20), 3) := by decide +kernel
theorem dX6_checksum_29 : decode cX6_checksum 29 = .ok (.lload_n 1, 1) := by decide +kernel
theorem dX6_checksum_30 : decode cX6_checksum 30 = .ok (.lreturn, 1) := by decide +kernel
theorem dX6_atLeastOne_0 : decode cX6_atLeastOne 0 = .ok (.iconst 1, 1) := by decide +kernel
theorem dX6_atLeastOne_1 : decode cX6_atLeastOne 1 = .ok (.iload_n 0, 1) := by decide +kernel
theorem dX6_atLeastOne_2 : decode cX6_atLeastOne 2 = .ok (.invokestatic 306, 3) := by decide +kernel
theorem dX6_atLeastOne_5 : decode cX6_atLeastOne 5 = .ok (.ireturn, 1) := by decide +kernel
theorem dX7_thrown_0 : decode cX7_thrown 0 = .ok (.aload_n 0, 1) := by decide +kernel
theorem dX7_thrown_1 : decode cX7_thrown 1 = .ok (.getfield 35, 3) := by decide +kernel
theorem dX7_thrown_4 : decode cX7_thrown 4 = .ok (.ireturn, 1) := by decide +kernel
theorem dX7_lets_0 : decode cX7_lets 0 = .ok (.aload_n 0, 1) := by decide +kernel
theorem dX7_lets_1 : decode cX7_lets 1 = .ok (.iload_n 1, 1) := by decide +kernel
theorem dX7_lets_2 : decode cX7_lets 2 = .ok (.ifCond .eq 7, 3) := by decide +kernel
theorem dX7_lets_5 : decode cX7_lets 5 = .ok (.iconst 0, 1) := by decide +kernel
theorem dX7_lets_6 : decode cX7_lets 6 = .ok (.goto 4, 3) := by decide +kernel
theorem dX7_lets_9 : decode cX7_lets 9 = .ok (.iload_n 2, 1) := by decide +kernel
theorem dX7_lets_10 : decode cX7_lets 10 = .ok (.putfield 35, 3) := by decide +kernel
theorem dX7_lets_13 : decode cX7_lets 13 = .ok (.iload_n 1, 1) := by decide +kernel
theorem dX7_lets_14 : decode cX7_lets 14 = .ok (.ireturn, 1) := by decide +kernel
theorem dX7_in_0 : decode cX7_in 0 = .ok (.iload_n 0, 1) := by decide +kernel
theorem dX7_in_1 : decode cX7_in 1 = .ok (.iload_n 1, 1) := by decide +kernel
theorem dX7_in_2 : decode cX7_in 2 = .ok (.if_icmp .lt 12, 3) := by decide +kernel
theorem dX7_in_5 : decode cX7_in 5 = .ok (.iload_n 0, 1) := by decide +kernel
theorem dX7_in_6 : decode cX7_in 6 = .ok (.iload_n 2, 1) := by decide +kernel
theorem dX7_in_7 : decode cX7_in 7 = .ok (.if_icmp .gt 7, 3) := by decide +kernel
theorem dX7_in_10 : decode cX7_in 10 = .ok (.iconst 1, 1) := by decide +kernel
theorem dX7_in_11 : decode cX7_in 11 = .ok (.goto 4, 3) := by decide +kernel
theorem dX7_in_14 : decode cX7_in 14 = .ok (.iconst 0, 1) := by decide +kernel
theorem dX7_in_15 : decode cX7_in 15 = .ok (.ireturn, 1) := by decide +kernel
theorem dX7_isOrder_0 : decode cX7_isOrder 0 = .ok (.iload_n 0, 1) := by decide +kernel
theorem dX7_isOrder_1 : decode cX7_isOrder 1 = .ok (.iconst 0, 1) := by decide +kernel
theorem dX7_isOrder_2 : decode cX7_isOrder 2 = .ok (.iconst 3, 1) := by decide +kernel
theorem dX7_isOrder_3 : decode cX7_isOrder 3 = .ok (.invokestatic 39, 3) := by decide +kernel
theorem dX7_isOrder_6 : decode cX7_isOrder 6 = .ok (.ireturn, 1) := by decide +kernel
theorem dX7_isThing_0 : decode cX7_isThing 0 = .ok (.iload_n 1, 1) := by decide +kernel
theorem dX7_isThing_1 : decode cX7_isThing 1 = .ok (.invokestatic 43, 3) := by decide +kernel
theorem dX7_isThing_4 : decode cX7_isThing 4 = .ok (.ifCond .eq 23, 3) := by decide +kernel
theorem dX7_isThing_7 : decode cX7_isThing 7 = .ok (.iload_n 2, 1) := by decide +kernel
theorem dX7_isThing_8 : decode cX7_isThing 8 = .ok (.iconst 0, 1) := by decide +kernel
theorem dX7_isThing_9 : decode cX7_isThing 9 = .ok (.aload_n 0, 1) := by decide +kernel
theorem dX7_isThing_10 : decode cX7_isThing 10 = .ok (.getfield 9, 3) := by decide +kernel
theorem dX7_isThing_13 : decode cX7_isThing 13 = .ok (.iload_n 1, 1) := by decide +kernel
theorem dX7_isThing_14 : decode cX7_isThing 14 = .ok (.iaload, 1) := by decide +kernel
theorem dX7_isThing_15 : decode cX7_isThing 15 = .ok (.iconst 1, 1) := by decide +kernel
theorem dX7_isThing_16 : decode cX7_isThing 16 = .ok (.isub, 1) := by decide +kernel
theorem dX7_isThing_17 : decode cX7_isThing 17 = .ok (.invokestatic 39, 3) := by decide +kernel
theorem dX7_isThing_20 : decode cX7_isThing 20 = .ok (.ifCond .eq 7, 3) := by decide +kernel
theorem dX7_isThing_23 : decode cX7_isThing 23 = .ok (.iconst 1, 1) := by decide +kernel
theorem dX7_isThing_24 : decode cX7_isThing 24 = .ok (.goto 4, 3) := by decide +kernel
theorem dX7_isThing_27 : decode cX7_isThing 27 = .ok (.iconst 0, 1) := by decide +kernel
theorem dX7_isThing_28 : decode cX7_isThing 28 = .ok (.ireturn, 1) := by decide +kernel
theorem dX7_isSet_0 : decode cX7_isSet 0 = .ok (.iload_n 2, 1) := by decide +kernel
theorem dX7_isSet_1 : decode cX7_isSet 1 = .ok (.ifCond .lt 19, 3) := by decide +kernel
theorem dX7_isSet_4 : decode cX7_isSet 4 = .ok (.iload_n 2, 1) := by decide +kernel
theorem dX7_isSet_5 : decode cX7_isSet 5 = .ok (.iconst 1, 1) := by decide +kernel
theorem dX7_isSet_6 : decode cX7_isSet 6 = .ok (.aload_n 0, 1) := by decide +kernel
theorem dX7_isSet_7 : decode cX7_isSet 7 = .ok (.getfield 9, 3) := by decide +kernel
theorem dX7_isSet_10 : decode cX7_isSet 10 = .ok (.iload_n 1, 1) := by decide +kernel
theorem dX7_isSet_11 : decode cX7_isSet 11 = .ok (.iaload, 1) := by decide +kernel
theorem dX7_isSet_12 : decode cX7_isSet 12 = .ok (.ishl, 1) := by decide +kernel
theorem dX7_isSet_13 : decode cX7_isSet 13 = .ok (.if_icmp .ge 7, 3) := by decide +kernel
theorem dX7_isSet_16 : decode cX7_isSet 16 = .ok (.iconst 1, 1) := by decide +kernel
theorem dX7_isSet_17 : decode cX7_isSet 17 = .ok (.goto 4, 3) := by decide +kernel
theorem dX7_isSet_20 : decode cX7_isSet 20 = .ok (.iconst 0, 1) := by decide +kernel
theorem dX7_isSet_21 : decode cX7_isSet 21 = .ok (.ireturn, 1) := by decide +kernel
theorem dX7_has_0 : decode cX7_has 0 = .ok (.iload_n 0, 1) := by decide +kernel
theorem dX7_has_1 : decode cX7_has 1 = .ok (.iload_n 1, 1) := by decide +kernel
theorem dX7_has_2 : decode cX7_has 2 = .ok (.ishr, 1) := by decide +kernel
theorem dX7_has_3 : decode cX7_has 3 = .ok (.iconst 1, 1) := by decide +kernel
theorem dX7_has_4 : decode cX7_has 4 = .ok (.iand, 1) := by decide +kernel
theorem dX7_has_5 : decode cX7_has 5 = .ok (.iconst 1, 1) := by decide +kernel
theorem dX7_has_6 : decode cX7_has 6 = .ok (.if_icmp .ne 7, 3) := by decide +kernel
theorem dX7_has_9 : decode cX7_has 9 = .ok (.iconst 1, 1) := by decide +kernel
theorem dX7_has_10 : decode cX7_has 10 = .ok (.goto 4, 3) := by decide +kernel
theorem dX7_has_13 : decode cX7_has 13 = .ok (.iconst 0, 1) := by decide +kernel
theorem dX7_has_14 : decode cX7_has 14 = .ok (.ireturn, 1) := by decide +kernel
theorem dX7_manyIn_0 : decode cX7_manyIn 0 = .ok (.iconst 0, 1) := by decide +kernel
theorem dX7_manyIn_1 : decode cX7_manyIn 1 = .ok (.istore_n 1, 1) := by decide +kernel
theorem dX7_manyIn_2 : decode cX7_manyIn 2 = .ok (.iconst 0, 1) := by decide +kernel
theorem dX7_manyIn_3 : decode cX7_manyIn 3 = .ok (.istore_n 2, 1) := by decide +kernel
theorem dX7_manyIn_4 : decode cX7_manyIn 4 = .ok (.iload_n 2, 1) := by decide +kernel
theorem dX7_manyIn_5 : decode cX7_manyIn 5 = .ok (.bipush 9, 2) := by decide +kernel
theorem dX7_manyIn_7 : decode cX7_manyIn 7 = .ok (.if_icmp .ge 25, 3) := by decide +kernel
theorem dX7_manyIn_10 : decode cX7_manyIn 10 = .ok (.iload_n 1, 1) := by decide +kernel
theorem dX7_manyIn_11 : decode cX7_manyIn 11 = .ok (.iload_n 0, 1) := by decide +kernel
theorem dX7_manyIn_12 : decode cX7_manyIn 12 = .ok (.iload_n 2, 1) := by decide +kernel
theorem dX7_manyIn_13 : decode cX7_manyIn 13 = .ok (.invokestatic 47, 3) := by decide +kernel
theorem dX7_manyIn_16 : decode cX7_manyIn 16 = .ok (.ifCond .eq 7, 3) := by decide +kernel
theorem dX7_manyIn_19 : decode cX7_manyIn 19 = .ok (.iconst 1, 1) := by decide +kernel
theorem dX7_manyIn_20 : decode cX7_manyIn 20 = .ok (.goto 4, 3) := by decide +kernel
theorem dX7_manyIn_23 : decode cX7_manyIn 23 = .ok (.iconst 0, 1) := by decide +kernel
theorem dX7_manyIn_24 : decode cX7_manyIn 24 = .ok (.iadd, 1) := by decide +kernel
theorem dX7_manyIn_25 : decode cX7_manyIn 25 = .ok (.istore_n 1, 1) := by decide +kernel
theorem dX7_manyIn_26 : decode cX7_manyIn 26 = .ok (.iinc 2 1, 3) := by decide +kernel
theorem dX7_manyIn_29 : decode cX7_manyIn 29 = .ok (.goto (-25), 3) := by decide +kernel
theorem dX7_manyIn_32 : decode cX7_manyIn 32 = .ok (.iload_n 1, 1) := by decide +kernel
theorem dX7_manyIn_33 : decode cX7_manyIn 33 = .ok (.ireturn, 1) := by decide +kernel
theorem dX7_empty_0 : decode cX7_empty 0 = .ok (.aload_n 0, 1) := by decide +kernel
theorem dX7_empty_1 : decode cX7_empty 1 = .ok (.getfield 9, 3) := by decide +kernel
theorem dX7_empty_4 : decode cX7_empty 4 = .ok (.iload_n 1, 1) := by decide +kernel
theorem dX7_empty_5 : decode cX7_empty 5 = .ok (.iload_n 2, 1) := by decide +kernel
theorem dX7_empty_6 : decode cX7_empty 6 = .ok (.iastore, 1) := by decide +kernel
theorem dX7_empty_7 : decode cX7_empty 7 = .ok (.iconst 0, 1) := by decide +kernel
theorem dX7_empty_8 : decode cX7_empty 8 = .ok (.istore_n 3, 1) := by decide +kernel
theorem dX7_empty_9 : decode cX7_empty 9 = .ok (.iload_n 3, 1) := by decide +kernel
theorem dX7_empty_10 : decode cX7_empty 10 = .ok (.bipush 9, 2) := by decide +kernel
theorem dX7_empty_12 : decode cX7_empty 12 = .ok (.if_icmp .ge 46, 3) := by decide +kernel
theorem dX7_empty_15 : decode cX7_empty 15 = .ok (.aload_n 0, 1) := by decide +kernel
theorem dX7_empty_16 : decode cX7_empty 16 = .ok (.getfield 15, 3) := by decide +kernel
theorem dX7_empty_19 : decode cX7_empty 19 = .ok (.iload_n 1, 1) := by decide +kernel
theorem dX7_empty_20 : decode cX7_empty 20 = .ok (.aaload, 1) := by decide +kernel
theorem dX7_empty_21 : decode cX7_empty 21 = .ok (.iload_n 3, 1) := by decide +kernel
theorem dX7_empty_22 : decode cX7_empty 22 = .ok (.iconst 0, 1) := by decide +kernel
theorem dX7_empty_23 : decode cX7_empty 23 = .ok (.iastore, 1) := by decide +kernel
theorem dX7_empty_24 : decode cX7_empty 24 = .ok (.iconst 0, 1) := by decide +kernel
theorem dX7_empty_25 : decode cX7_empty 25 = .ok (.istore 4, 2) := by decide +kernel
theorem dX7_empty_27 : decode cX7_empty 27 = .ok (.iload 4, 2) := by decide +kernel
theorem dX7_empty_29 : decode cX7_empty 29 = .ok (.bipush 9, 2) := by decide +kernel
theorem dX7_empty_31 : decode cX7_empty 31 = .ok (.if_icmp .ge 21, 3) := by decide +kernel
theorem dX7_empty_34 : decode cX7_empty 34 = .ok (.aload_n 0, 1) := by decide +kernel
theorem dX7_empty_35 : decode cX7_empty 35 = .ok (.getfield 20, 3) := by decide +kernel
theorem dX7_empty_38 : decode cX7_empty 38 = .ok (.iload_n 1, 1) := by decide +kernel
theorem dX7_empty_39 : decode cX7_empty 39 = .ok (.aaload, 1) := by decide +kernel
theorem dX7_empty_40 : decode cX7_empty 40 = .ok (.iload_n 3, 1) := by decide +kernel
theorem dX7_empty_41 : decode cX7_empty 41 = .ok (.aaload, 1) := by decide +kernel
theorem dX7_empty_42 : decode cX7_empty 42 = .ok (.iload 4, 2) := by decide +kernel
theorem dX7_empty_44 : decode cX7_empty 44 = .ok (.iconst 0, 1) := by decide +kernel
theorem dX7_empty_45 : decode cX7_empty 45 = .ok (.bastore, 1) := by decide +kernel
theorem dX7_empty_46 : decode cX7_empty 46 = .ok (.iinc 4 1, 3) := by decide +kernel
theorem dX7_empty_49 : decode cX7_empty 49 = .ok (.goto (-22), 3) := by decide +kernel
theorem dX7_empty_52 : decode cX7_empty 52 = .ok (.iinc 3 1, 3) := by decide +kernel
theorem dX7_empty_55 : decode cX7_empty 55 = .ok (.goto (-46), 3) := by decide +kernel
theorem dX7_empty_58 : decode cX7_empty 58 = .ok (.return_, 1) := by decide +kernel
theorem dX7_becomes_0 : decode cX7_becomes 0 = .ok (.aload_n 0, 1) := by decide +kernel
theorem dX7_becomes_1 : decode cX7_becomes 1 = .ok (.getfield 9, 3) := by decide +kernel
theorem dX7_becomes_4 : decode cX7_becomes 4 = .ok (.iload_n 1, 1) := by decide +kernel
theorem dX7_becomes_5 : decode cX7_becomes 5 = .ok (.aload_n 0, 1) := by decide +kernel
theorem dX7_becomes_6 : decode cX7_becomes 6 = .ok (.getfield 9, 3) := by decide +kernel
theorem dX7_becomes_9 : decode cX7_becomes 9 = .ok (.iload_n 2, 1) := by decide +kernel
theorem dX7_becomes_10 : decode cX7_becomes 10 = .ok (.iaload, 1) := by decide +kernel
theorem dX7_becomes_11 : decode cX7_becomes 11 = .ok (.iastore, 1) := by decide +kernel
theorem dX7_becomes_12 : decode cX7_becomes 12 = .ok (.iconst 0, 1) := by decide +kernel
theorem dX7_becomes_13 : decode cX7_becomes 13 = .ok (.istore_n 3, 1) := by decide +kernel
theorem dX7_becomes_14 : decode cX7_becomes 14 = .ok (.iload_n 3, 1) := by decide +kernel
theorem dX7_becomes_15 : decode cX7_becomes 15 = .ok (.bipush 9, 2) := by decide +kernel
theorem dX7_becomes_17 : decode cX7_becomes 17 = .ok (.if_icmp .ge 63, 3) := by decide +kernel
theorem dX7_becomes_20 : decode cX7_becomes 20 = .ok (.aload_n 0, 1) := by decide +kernel
theorem dX7_becomes_21 : decode cX7_becomes 21 = .ok (.getfield 15, 3) := by decide +kernel
theorem dX7_becomes_24 : decode cX7_becomes 24 = .ok (.iload_n 1, 1) := by decide +kernel
theorem dX7_becomes_25 : decode cX7_becomes 25 = .ok (.aaload, 1) := by decide +kernel
theorem dX7_becomes_26 : decode cX7_becomes 26 = .ok (.iload_n 3, 1) := by decide +kernel
theorem dX7_becomes_27 : decode cX7_becomes 27 = .ok (.aload_n 0, 1) := by decide +kernel
theorem dX7_becomes_28 : decode cX7_becomes 28 = .ok (.getfield 15, 3) := by decide +kernel
theorem dX7_becomes_31 : decode cX7_becomes 31 = .ok (.iload_n 2, 1) := by decide +kernel
theorem dX7_becomes_32 : decode cX7_becomes 32 = .ok (.aaload, 1) := by decide +kernel
theorem dX7_becomes_33 : decode cX7_becomes 33 = .ok (.iload_n 3, 1) := by decide +kernel
theorem dX7_becomes_34 : decode cX7_becomes 34 = .ok (.iaload, 1) := by decide +kernel
theorem dX7_becomes_35 : decode cX7_becomes 35 = .ok (.iastore, 1) := by decide +kernel
theorem dX7_becomes_36 : decode cX7_becomes 36 = .ok (.iconst 0, 1) := by decide +kernel
theorem dX7_becomes_37 : decode cX7_becomes 37 = .ok (.istore 4, 2) := by decide +kernel
theorem dX7_becomes_39 : decode cX7_becomes 39 = .ok (.iload 4, 2) := by decide +kernel
theorem dX7_becomes_41 : decode cX7_becomes 41 = .ok (.bipush 9, 2) := by decide +kernel
theorem dX7_becomes_43 : decode cX7_becomes 43 = .ok (.if_icmp .ge 31, 3) := by decide +kernel
theorem dX7_becomes_46 : decode cX7_becomes 46 = .ok (.aload_n 0, 1) := by decide +kernel
theorem dX7_becomes_47 : decode cX7_becomes 47 = .ok (.getfield 20, 3) := by decide +kernel
theorem dX7_becomes_50 : decode cX7_becomes 50 = .ok (.iload_n 1, 1) := by decide +kernel
theorem dX7_becomes_51 : decode cX7_becomes 51 = .ok (.aaload, 1) := by decide +kernel
theorem dX7_becomes_52 : decode cX7_becomes 52 = .ok (.iload_n 3, 1) := by decide +kernel
theorem dX7_becomes_53 : decode cX7_becomes 53 = .ok (.aaload, 1) := by decide +kernel
theorem dX7_becomes_54 : decode cX7_becomes 54 = .ok (.iload 4, 2) := by decide +kernel
theorem dX7_becomes_56 : decode cX7_becomes 56 = .ok (.aload_n 0, 1) := by decide +kernel
theorem dX7_becomes_57 : decode cX7_becomes 57 = .ok (.getfield 20, 3) := by decide +kernel
theorem dX7_becomes_60 : decode cX7_becomes 60 = .ok (.iload_n 2, 1) := by decide +kernel
theorem dX7_becomes_61 : decode cX7_becomes 61 = .ok (.aaload, 1) := by decide +kernel
theorem dX7_becomes_62 : decode cX7_becomes 62 = .ok (.iload_n 3, 1) := by decide +kernel
theorem dX7_becomes_63 : decode cX7_becomes 63 = .ok (.aaload, 1) := by decide +kernel
theorem dX7_becomes_64 : decode cX7_becomes 64 = .ok (.iload 4, 2) := by decide +kernel
theorem dX7_becomes_66 : decode cX7_becomes 66 = .ok (.baload, 1) := by decide +kernel
theorem dX7_becomes_67 : decode cX7_becomes 67 = .ok (.bastore, 1) := by decide +kernel
theorem dX7_becomes_68 : decode cX7_becomes 68 = .ok (.iinc 4 1, 3) := by decide +kernel
theorem dX7_becomes_71 : decode cX7_becomes 71 = .ok (.goto (-32), 3) := by decide +kernel
theorem dX7_becomes_74 : decode cX7_becomes 74 = .ok (.iinc 3 1, 3) := by decide +kernel
theorem dX7_becomes_77 : decode cX7_becomes 77 = .ok (.goto (-63), 3) := by decide +kernel
theorem dX7_becomes_80 : decode cX7_becomes 80 = .ok (.return_, 1) := by decide +kernel
theorem dX7_pairsOf_0 : decode cX7_pairsOf 0 = .ok (.iconst 0, 1) := by decide +kernel
theorem dX7_pairsOf_1 : decode cX7_pairsOf 1 = .ok (.istore_n 2, 1) := by decide +kernel
theorem dX7_pairsOf_2 : decode cX7_pairsOf 2 = .ok (.iconst 0, 1) := by decide +kernel
theorem dX7_pairsOf_3 : decode cX7_pairsOf 3 = .ok (.istore_n 3, 1) := by decide +kernel
theorem dX7_pairsOf_4 : decode cX7_pairsOf 4 = .ok (.iload_n 3, 1) := by decide +kernel
theorem dX7_pairsOf_5 : decode cX7_pairsOf 5 = .ok (.aload_n 0, 1) := by decide +kernel
theorem dX7_pairsOf_6 : decode cX7_pairsOf 6 = .ok (.getfield 9, 3) := by decide +kernel
theorem dX7_pairsOf_9 : decode cX7_pairsOf 9 = .ok (.iload_n 1, 1) := by decide +kernel
theorem dX7_pairsOf_10 : decode cX7_pairsOf 10 = .ok (.iaload, 1) := by decide +kernel
theorem dX7_pairsOf_11 : decode cX7_pairsOf 11 = .ok (.if_icmp .ge 51, 3) := by decide +kernel
theorem dX7_pairsOf_14 : decode cX7_pairsOf 14 = .ok (.iconst 0, 1) := by decide +kernel
theorem dX7_pairsOf_15 : decode cX7_pairsOf 15 = .ok (.istore 4, 2) := by decide +kernel
theorem dX7_pairsOf_17 : decode cX7_pairsOf 17 = .ok (.iload 4, 2) := by decide +kernel
theorem dX7_pairsOf_19 : decode cX7_pairsOf 19 = .ok (.aload_n 0, 1) := by decide +kernel
theorem dX7_pairsOf_20 : decode cX7_pairsOf 20 = .ok (.getfield 9, 3) := by decide +kernel
theorem dX7_pairsOf_23 : decode cX7_pairsOf 23 = .ok (.iload_n 1, 1) := by decide +kernel
theorem dX7_pairsOf_24 : decode cX7_pairsOf 24 = .ok (.iaload, 1) := by decide +kernel
theorem dX7_pairsOf_25 : decode cX7_pairsOf 25 = .ok (.if_icmp .ge 31, 3) := by decide +kernel
theorem dX7_pairsOf_28 : decode cX7_pairsOf 28 = .ok (.iload_n 2, 1) := by decide +kernel
theorem dX7_pairsOf_29 : decode cX7_pairsOf 29 = .ok (.aload_n 0, 1) := by decide +kernel
theorem dX7_pairsOf_30 : decode cX7_pairsOf 30 = .ok (.getfield 20, 3) := by decide +kernel
theorem dX7_pairsOf_33 : decode cX7_pairsOf 33 = .ok (.iload_n 1, 1) := by decide +kernel
theorem dX7_pairsOf_34 : decode cX7_pairsOf 34 = .ok (.aaload, 1) := by decide +kernel
theorem dX7_pairsOf_35 : decode cX7_pairsOf 35 = .ok (.iload_n 3, 1) := by decide +kernel
theorem dX7_pairsOf_36 : decode cX7_pairsOf 36 = .ok (.aaload, 1) := by decide +kernel
theorem dX7_pairsOf_37 : decode cX7_pairsOf 37 = .ok (.iload 4, 2) := by decide +kernel
theorem dX7_pairsOf_39 : decode cX7_pairsOf 39 = .ok (.baload, 1) := by decide +kernel
theorem dX7_pairsOf_40 : decode cX7_pairsOf 40 = .ok (.ifCond .eq 7, 3) := by decide +kernel
theorem dX7_pairsOf_43 : decode cX7_pairsOf 43 = .ok (.iconst 1, 1) := by decide +kernel
theorem dX7_pairsOf_44 : decode cX7_pairsOf 44 = .ok (.goto 4, 3) := by decide +kernel
theorem dX7_pairsOf_47 : decode cX7_pairsOf 47 = .ok (.iconst 0, 1) := by decide +kernel
theorem dX7_pairsOf_48 : decode cX7_pairsOf 48 = .ok (.iadd, 1) := by decide +kernel
theorem dX7_pairsOf_49 : decode cX7_pairsOf 49 = .ok (.istore_n 2, 1) := by decide +kernel
theorem dX7_pairsOf_50 : decode cX7_pairsOf 50 = .ok (.iinc 4 1, 3) := by decide +kernel
theorem dX7_pairsOf_53 : decode cX7_pairsOf 53 = .ok (.goto (-36), 3) := by decide +kernel
theorem dX7_pairsOf_56 : decode cX7_pairsOf 56 = .ok (.iinc 3 1, 3) := by decide +kernel
theorem dX7_pairsOf_59 : decode cX7_pairsOf 59 = .ok (.goto (-55), 3) := by decide +kernel
theorem dX7_pairsOf_62 : decode cX7_pairsOf 62 = .ok (.iload_n 2, 1) := by decide +kernel
theorem dX7_pairsOf_63 : decode cX7_pairsOf 63 = .ok (.ireturn, 1) := by decide +kernel
theorem dX7_lay_0 : decode cX7_lay 0 = .ok (.aload_n 0, 1) := by decide +kernel
theorem dX7_lay_1 : decode cX7_lay 1 = .ok (.iload_n 1, 1) := by decide +kernel
theorem dX7_lay_2 : decode cX7_lay 2 = .ok (.invokestatic 43, 3) := by decide +kernel
theorem dX7_lay_5 : decode cX7_lay 5 = .ok (.iconst 1, 1) := by decide +kernel
theorem dX7_lay_6 : decode cX7_lay 6 = .ok (.invokevirtual 51, 3) := by decide +kernel
theorem dX7_lay_9 : decode cX7_lay 9 = .ok (.ifCond .eq 18, 3) := by decide +kernel
theorem dX7_lay_12 : decode cX7_lay 12 = .ok (.aload_n 0, 1) := by decide +kernel
theorem dX7_lay_13 : decode cX7_lay 13 = .ok (.iload_n 2, 1) := by decide +kernel
theorem dX7_lay_14 : decode cX7_lay 14 = .ok (.iconst 0, 1) := by decide +kernel
theorem dX7_lay_15 : decode cX7_lay 15 = .ok (.bipush 9, 2) := by decide +kernel
theorem dX7_lay_17 : decode cX7_lay 17 = .ok (.invokestatic 39, 3) := by decide +kernel
theorem dX7_lay_20 : decode cX7_lay 20 = .ok (.iconst 2, 1) := by decide +kernel
theorem dX7_lay_21 : decode cX7_lay 21 = .ok (.invokevirtual 51, 3) := by decide +kernel
theorem dX7_lay_24 : decode cX7_lay 24 = .ok (.ifCond .ne 5, 3) := by decide +kernel
theorem dX7_lay_27 : decode cX7_lay 27 = .ok (.iconst 0, 1) := by decide +kernel
theorem dX7_lay_28 : decode cX7_lay 28 = .ok (.ireturn, 1) := by decide +kernel
theorem dX7_lay_29 : decode cX7_lay 29 = .ok (.aload_n 0, 1) := by decide +kernel
theorem dX7_lay_30 : decode cX7_lay 30 = .ok (.getfield 9, 3) := by decide +kernel
theorem dX7_lay_33 : decode cX7_lay 33 = .ok (.iload_n 1, 1) := by decide +kernel
theorem dX7_lay_34 : decode cX7_lay 34 = .ok (.iaload, 1) := by decide +kernel
theorem dX7_lay_35 : decode cX7_lay 35 = .ok (.istore_n 3, 1) := by decide +kernel
theorem dX7_lay_36 : decode cX7_lay 36 = .ok (.aload_n 0, 1) := by decide +kernel
theorem dX7_lay_37 : decode cX7_lay 37 = .ok (.iload_n 1, 1) := by decide +kernel
theorem dX7_lay_38 : decode cX7_lay 38 = .ok (.iload_n 2, 1) := by decide +kernel
theorem dX7_lay_39 : decode cX7_lay 39 = .ok (.invokevirtual 55, 3) := by decide +kernel
theorem dX7_lay_42 : decode cX7_lay 42 = .ok (.iload_n 3, 1) := by decide +kernel
theorem dX7_lay_43 : decode cX7_lay 43 = .ok (.ireturn, 1) := by decide +kernel
theorem dX7_chain_0 : decode cX7_chain 0 = .ok (.aload_n 0, 1) := by decide +kernel
theorem dX7_chain_1 : decode cX7_chain 1 = .ok (.iload_n 1, 1) := by decide +kernel
theorem dX7_chain_2 : decode cX7_chain 2 = .ok (.invokestatic 43, 3) := by decide +kernel
theorem dX7_chain_5 : decode cX7_chain 5 = .ok (.iconst 1, 1) := by decide +kernel
theorem dX7_chain_6 : decode cX7_chain 6 = .ok (.invokevirtual 51, 3) := by decide +kernel
theorem dX7_chain_9 : decode cX7_chain 9 = .ok (.ifCond .eq 18, 3) := by decide +kernel
theorem dX7_chain_12 : decode cX7_chain 12 = .ok (.aload_n 0, 1) := by decide +kernel
theorem dX7_chain_13 : decode cX7_chain 13 = .ok (.iload_n 2, 1) := by decide +kernel
theorem dX7_chain_14 : decode cX7_chain 14 = .ok (.iconst 0, 1) := by decide +kernel
theorem dX7_chain_15 : decode cX7_chain 15 = .ok (.bipush 9, 2) := by decide +kernel
theorem dX7_chain_17 : decode cX7_chain 17 = .ok (.invokestatic 39, 3) := by decide +kernel
theorem dX7_chain_20 : decode cX7_chain 20 = .ok (.iconst 2, 1) := by decide +kernel
theorem dX7_chain_21 : decode cX7_chain 21 = .ok (.invokevirtual 51, 3) := by decide +kernel
theorem dX7_chain_24 : decode cX7_chain 24 = .ok (.ifCond .ne 5, 3) := by decide +kernel
theorem dX7_chain_27 : decode cX7_chain 27 = .ok (.iconst 0, 1) := by decide +kernel
theorem dX7_chain_28 : decode cX7_chain 28 = .ok (.ireturn, 1) := by decide +kernel
theorem dX7_chain_29 : decode cX7_chain 29 = .ok (.aload_n 0, 1) := by decide +kernel
theorem dX7_chain_30 : decode cX7_chain 30 = .ok (.iload_n 1, 1) := by decide +kernel
theorem dX7_chain_31 : decode cX7_chain 31 = .ok (.iload_n 2, 1) := by decide +kernel
theorem dX7_chain_32 : decode cX7_chain 32 = .ok (.invokevirtual 55, 3) := by decide +kernel
theorem dX7_chain_35 : decode cX7_chain 35 = .ok (.iconst 0, 1) := by decide +kernel
theorem dX7_chain_36 : decode cX7_chain 36 = .ok (.istore_n 3, 1) := by decide +kernel
theorem dX7_chain_37 : decode cX7_chain 37 = .ok (.iload_n 3, 1) := by decide +kernel
theorem dX7_chain_38 : decode cX7_chain 38 = .ok (.iload_n 2, 1) := by decide +kernel
theorem dX7_chain_39 : decode cX7_chain 39 = .ok (.if_icmp .ge 38, 3) := by decide +kernel
theorem dX7_chain_42 : decode cX7_chain 42 = .ok (.iload_n 3, 1) := by decide +kernel
theorem dX7_chain_43 : decode cX7_chain 43 = .ok (.iconst 1, 1) := by decide +kernel
theorem dX7_chain_44 : decode cX7_chain 44 = .ok (.iadd, 1) := by decide +kernel
theorem dX7_chain_45 : decode cX7_chain 45 = .ok (.istore 4, 2) := by decide +kernel
theorem dX7_chain_47 : decode cX7_chain 47 = .ok (.iload 4, 2) := by decide +kernel
theorem dX7_chain_49 : decode cX7_chain 49 = .ok (.iload_n 2, 1) := by decide +kernel
theorem dX7_chain_50 : decode cX7_chain 50 = .ok (.if_icmp .ge 21, 3) := by decide +kernel
theorem dX7_chain_53 : decode cX7_chain 53 = .ok (.aload_n 0, 1) := by decide +kernel
theorem dX7_chain_54 : decode cX7_chain 54 = .ok (.getfield 20, 3) := by decide +kernel
theorem dX7_chain_57 : decode cX7_chain 57 = .ok (.iload_n 1, 1) := by decide +kernel
theorem dX7_chain_58 : decode cX7_chain 58 = .ok (.aaload, 1) := by decide +kernel
theorem dX7_chain_59 : decode cX7_chain 59 = .ok (.iload_n 3, 1) := by decide +kernel
theorem dX7_chain_60 : decode cX7_chain 60 = .ok (.aaload, 1) := by decide +kernel
theorem dX7_chain_61 : decode cX7_chain 61 = .ok (.iload 4, 2) := by decide +kernel
theorem dX7_chain_63 : decode cX7_chain 63 = .ok (.iconst 1, 1) := by decide +kernel
theorem dX7_chain_64 : decode cX7_chain 64 = .ok (.bastore, 1) := by decide +kernel
theorem dX7_chain_65 : decode cX7_chain 65 = .ok (.iinc 4 1, 3) := by decide +kernel
theorem dX7_chain_68 : decode cX7_chain 68 = .ok (.goto (-21), 3) := by decide +kernel
theorem dX7_chain_71 : decode cX7_chain 71 = .ok (.iinc 3 1, 3) := by decide +kernel
theorem dX7_chain_74 : decode cX7_chain 74 = .ok (.goto (-37), 3) := by decide +kernel
theorem dX7_chain_77 : decode cX7_chain 77 = .ok (.aload_n 0, 1) := by decide +kernel
theorem dX7_chain_78 : decode cX7_chain 78 = .ok (.iload_n 1, 1) := by decide +kernel
theorem dX7_chain_79 : decode cX7_chain 79 = .ok (.invokevirtual 59, 3) := by decide +kernel
theorem dX7_chain_82 : decode cX7_chain 82 = .ok (.ireturn, 1) := by decide +kernel
theorem dX7_add_0 : decode cX7_add 0 = .ok (.aload_n 0, 1) := by decide +kernel
theorem dX7_add_1 : decode cX7_add 1 = .ok (.iload_n 1, 1) := by decide +kernel
theorem dX7_add_2 : decode cX7_add 2 = .ok (.invokestatic 43, 3) := by decide +kernel
theorem dX7_add_5 : decode cX7_add 5 = .ok (.iconst 1, 1) := by decide +kernel
theorem dX7_add_6 : decode cX7_add 6 = .ok (.invokevirtual 51, 3) := by decide +kernel
theorem dX7_add_9 : decode cX7_add 9 = .ok (.ifCond .eq 45, 3) := by decide +kernel
theorem dX7_add_12 : decode cX7_add 12 = .ok (.aload_n 0, 1) := by decide +kernel
theorem dX7_add_13 : decode cX7_add 13 = .ok (.iload_n 2, 1) := by decide +kernel
theorem dX7_add_14 : decode cX7_add 14 = .ok (.sipush (-1000), 3) := by decide +kernel
theorem dX7_add_17 : decode cX7_add 17 = .ok (.sipush 1000, 3) := by decide +kernel
theorem dX7_add_20 : decode cX7_add 20 = .ok (.invokestatic 39, 3) := by decide +kernel
theorem dX7_add_23 : decode cX7_add 23 = .ok (.iconst 2, 1) := by decide +kernel
theorem dX7_add_24 : decode cX7_add 24 = .ok (.invokevirtual 51, 3) := by decide +kernel
theorem dX7_add_27 : decode cX7_add 27 = .ok (.ifCond .eq 27, 3) := by decide +kernel
theorem dX7_add_30 : decode cX7_add 30 = .ok (.aload_n 0, 1) := by decide +kernel
theorem dX7_add_31 : decode cX7_add 31 = .ok (.aload_n 0, 1) := by decide +kernel
theorem dX7_add_32 : decode cX7_add 32 = .ok (.getfield 9, 3) := by decide +kernel
theorem dX7_add_35 : decode cX7_add 35 = .ok (.iload_n 1, 1) := by decide +kernel
theorem dX7_add_36 : decode cX7_add 36 = .ok (.iaload, 1) := by decide +kernel
theorem dX7_add_37 : decode cX7_add 37 = .ok (.bipush 9, 2) := by decide +kernel
theorem dX7_add_39 : decode cX7_add 39 = .ok (.if_icmp .ge 7, 3) := by decide +kernel
theorem dX7_add_42 : decode cX7_add 42 = .ok (.iconst 1, 1) := by decide +kernel
theorem dX7_add_43 : decode cX7_add 43 = .ok (.goto 4, 3) := by decide +kernel
theorem dX7_add_46 : decode cX7_add 46 = .ok (.iconst 0, 1) := by decide +kernel
theorem dX7_add_47 : decode cX7_add 47 = .ok (.iconst 3, 1) := by decide +kernel
theorem dX7_add_48 : decode cX7_add 48 = .ok (.invokevirtual 51, 3) := by decide +kernel
theorem dX7_add_51 : decode cX7_add 51 = .ok (.ifCond .ne 5, 3) := by decide +kernel
theorem dX7_add_54 : decode cX7_add 54 = .ok (.iconst 0, 1) := by decide +kernel
theorem dX7_add_55 : decode cX7_add 55 = .ok (.ireturn, 1) := by decide +kernel
theorem dX7_add_56 : decode cX7_add 56 = .ok (.aload_n 0, 1) := by decide +kernel
theorem dX7_add_57 : decode cX7_add 57 = .ok (.getfield 9, 3) := by decide +kernel
theorem dX7_add_60 : decode cX7_add 60 = .ok (.iload_n 1, 1) := by decide +kernel
theorem dX7_add_61 : decode cX7_add 61 = .ok (.iaload, 1) := by decide +kernel
theorem dX7_add_62 : decode cX7_add 62 = .ok (.istore_n 3, 1) := by decide +kernel
theorem dX7_add_63 : decode cX7_add 63 = .ok (.aload_n 0, 1) := by decide +kernel
theorem dX7_add_64 : decode cX7_add 64 = .ok (.getfield 9, 3) := by decide +kernel
theorem dX7_add_67 : decode cX7_add 67 = .ok (.iload_n 1, 1) := by decide +kernel
theorem dX7_add_68 : decode cX7_add 68 = .ok (.dup2, 1) := by decide +kernel
theorem dX7_add_69 : decode cX7_add 69 = .ok (.iaload, 1) := by decide +kernel
theorem dX7_add_70 : decode cX7_add 70 = .ok (.iconst 1, 1) := by decide +kernel
theorem dX7_add_71 : decode cX7_add 71 = .ok (.iadd, 1) := by decide +kernel
theorem dX7_add_72 : decode cX7_add 72 = .ok (.iastore, 1) := by decide +kernel
theorem dX7_add_73 : decode cX7_add 73 = .ok (.aload_n 0, 1) := by decide +kernel
theorem dX7_add_74 : decode cX7_add 74 = .ok (.getfield 15, 3) := by decide +kernel
theorem dX7_add_77 : decode cX7_add 77 = .ok (.iload_n 1, 1) := by decide +kernel
theorem dX7_add_78 : decode cX7_add 78 = .ok (.aaload, 1) := by decide +kernel
theorem dX7_add_79 : decode cX7_add 79 = .ok (.iload_n 3, 1) := by decide +kernel
theorem dX7_add_80 : decode cX7_add 80 = .ok (.iload_n 2, 1) := by decide +kernel
theorem dX7_add_81 : decode cX7_add 81 = .ok (.iastore, 1) := by decide +kernel
theorem dX7_add_82 : decode cX7_add 82 = .ok (.iconst 0, 1) := by decide +kernel
theorem dX7_add_83 : decode cX7_add 83 = .ok (.istore 4, 2) := by decide +kernel
theorem dX7_add_85 : decode cX7_add 85 = .ok (.iload 4, 2) := by decide +kernel
theorem dX7_add_87 : decode cX7_add 87 = .ok (.bipush 9, 2) := by decide +kernel
theorem dX7_add_89 : decode cX7_add 89 = .ok (.if_icmp .ge 33, 3) := by decide +kernel
theorem dX7_add_92 : decode cX7_add 92 = .ok (.aload_n 0, 1) := by decide +kernel
theorem dX7_add_93 : decode cX7_add 93 = .ok (.getfield 20, 3) := by decide +kernel
theorem dX7_add_96 : decode cX7_add 96 = .ok (.iload_n 1, 1) := by decide +kernel
theorem dX7_add_97 : decode cX7_add 97 = .ok (.aaload, 1) := by decide +kernel
theorem dX7_add_98 : decode cX7_add 98 = .ok (.iload_n 3, 1) := by decide +kernel
theorem dX7_add_99 : decode cX7_add 99 = .ok (.aaload, 1) := by decide +kernel
theorem dX7_add_100 : decode cX7_add 100 = .ok (.iload 4, 2) := by decide +kernel
theorem dX7_add_102 : decode cX7_add 102 = .ok (.iconst 0, 1) := by decide +kernel
theorem dX7_add_103 : decode cX7_add 103 = .ok (.bastore, 1) := by decide +kernel
theorem dX7_add_104 : decode cX7_add 104 = .ok (.aload_n 0, 1) := by decide +kernel
theorem dX7_add_105 : decode cX7_add 105 = .ok (.getfield 20, 3) := by decide +kernel
theorem dX7_add_108 : decode cX7_add 108 = .ok (.iload_n 1, 1) := by decide +kernel
theorem dX7_add_109 : decode cX7_add 109 = .ok (.aaload, 1) := by decide +kernel
theorem dX7_add_110 : decode cX7_add 110 = .ok (.iload 4, 2) := by decide +kernel
theorem dX7_add_112 : decode cX7_add 112 = .ok (.aaload, 1) := by decide +kernel
theorem dX7_add_113 : decode cX7_add 113 = .ok (.iload_n 3, 1) := by decide +kernel
theorem dX7_add_114 : decode cX7_add 114 = .ok (.iconst 0, 1) := by decide +kernel
theorem dX7_add_115 : decode cX7_add 115 = .ok (.bastore, 1) := by decide +kernel
theorem dX7_add_116 : decode cX7_add 116 = .ok (.iinc 4 1, 3) := by decide +kernel
theorem dX7_add_119 : decode cX7_add 119 = .ok (.goto (-34), 3) := by decide +kernel
theorem dX7_add_122 : decode cX7_add 122 = .ok (.iload_n 3, 1) := by decide +kernel
theorem dX7_add_123 : decode cX7_add 123 = .ok (.ireturn, 1) := by decide +kernel
theorem dX7_stay_0 : decode cX7_stay 0 = .ok (.aload_n 0, 1) := by decide +kernel
theorem dX7_stay_1 : decode cX7_stay 1 = .ok (.iconst 4, 1) := by decide +kernel
theorem dX7_stay_2 : decode cX7_stay 2 = .ok (.iconst 0, 1) := by decide +kernel
theorem dX7_stay_3 : decode cX7_stay 3 = .ok (.invokevirtual 55, 3) := by decide +kernel
theorem dX7_stay_6 : decode cX7_stay 6 = .ok (.iconst 0, 1) := by decide +kernel
theorem dX7_stay_7 : decode cX7_stay 7 = .ok (.istore_n 3, 1) := by decide +kernel
theorem dX7_stay_8 : decode cX7_stay 8 = .ok (.iconst 0, 1) := by decide +kernel
theorem dX7_stay_9 : decode cX7_stay 9 = .ok (.istore 4, 2) := by decide +kernel
theorem dX7_stay_11 : decode cX7_stay 11 = .ok (.iload 4, 2) := by decide +kernel
theorem dX7_stay_13 : decode cX7_stay 13 = .ok (.aload_n 0, 1) := by decide +kernel
theorem dX7_stay_14 : decode cX7_stay 14 = .ok (.getfield 9, 3) := by decide +kernel
theorem dX7_stay_17 : decode cX7_stay 17 = .ok (.iload_n 1, 1) := by decide +kernel
theorem dX7_stay_18 : decode cX7_stay 18 = .ok (.iaload, 1) := by decide +kernel
theorem dX7_stay_19 : decode cX7_stay 19 = .ok (.if_icmp .ge 29, 3) := by decide +kernel
theorem dX7_stay_22 : decode cX7_stay 22 = .ok (.iload_n 2, 1) := by decide +kernel
theorem dX7_stay_23 : decode cX7_stay 23 = .ok (.iload 4, 2) := by decide +kernel
theorem dX7_stay_25 : decode cX7_stay 25 = .ok (.invokestatic 47, 3) := by decide +kernel
theorem dX7_stay_28 : decode cX7_stay 28 = .ok (.ifCond .eq 14, 3) := by decide +kernel
theorem dX7_stay_31 : decode cX7_stay 31 = .ok (.aload_n 0, 1) := by decide +kernel
theorem dX7_stay_32 : decode cX7_stay 32 = .ok (.getfield 29, 3) := by decide +kernel
theorem dX7_stay_35 : decode cX7_stay 35 = .ok (.iload_n 3, 1) := by decide +kernel
theorem dX7_stay_36 : decode cX7_stay 36 = .ok (.iload 4, 2) := by decide +kernel
theorem dX7_stay_38 : decode cX7_stay 38 = .ok (.iastore, 1) := by decide +kernel
theorem dX7_stay_39 : decode cX7_stay 39 = .ok (.iinc 3 1, 3) := by decide +kernel
theorem dX7_stay_42 : decode cX7_stay 42 = .ok (.iinc 4 1, 3) := by decide +kernel
theorem dX7_stay_45 : decode cX7_stay 45 = .ok (.goto (-34), 3) := by decide +kernel
theorem dX7_stay_48 : decode cX7_stay 48 = .ok (.aload_n 0, 1) := by decide +kernel
theorem dX7_stay_49 : decode cX7_stay 49 = .ok (.getfield 9, 3) := by decide +kernel
theorem dX7_stay_52 : decode cX7_stay 52 = .ok (.iconst 4, 1) := by decide +kernel
theorem dX7_stay_53 : decode cX7_stay 53 = .ok (.iload_n 3, 1) := by decide +kernel
theorem dX7_stay_54 : decode cX7_stay 54 = .ok (.iastore, 1) := by decide +kernel
theorem dX7_stay_55 : decode cX7_stay 55 = .ok (.iconst 0, 1) := by decide +kernel
theorem dX7_stay_56 : decode cX7_stay 56 = .ok (.istore 4, 2) := by decide +kernel
theorem dX7_stay_58 : decode cX7_stay 58 = .ok (.iload 4, 2) := by decide +kernel
theorem dX7_stay_60 : decode cX7_stay 60 = .ok (.iload_n 3, 1) := by decide +kernel
theorem dX7_stay_61 : decode cX7_stay 61 = .ok (.if_icmp .ge 81, 3) := by decide +kernel
theorem dX7_stay_64 : decode cX7_stay 64 = .ok (.aload_n 0, 1) := by decide +kernel
theorem dX7_stay_65 : decode cX7_stay 65 = .ok (.getfield 15, 3) := by decide +kernel
theorem dX7_stay_68 : decode cX7_stay 68 = .ok (.iconst 4, 1) := by decide +kernel
theorem dX7_stay_69 : decode cX7_stay 69 = .ok (.aaload, 1) := by decide +kernel
theorem dX7_stay_70 : decode cX7_stay 70 = .ok (.iload 4, 2) := by decide +kernel
theorem dX7_stay_72 : decode cX7_stay 72 = .ok (.aload_n 0, 1) := by decide +kernel
theorem dX7_stay_73 : decode cX7_stay 73 = .ok (.getfield 15, 3) := by decide +kernel
theorem dX7_stay_76 : decode cX7_stay 76 = .ok (.iload_n 1, 1) := by decide +kernel
theorem dX7_stay_77 : decode cX7_stay 77 = .ok (.aaload, 1) := by decide +kernel
theorem dX7_stay_78 : decode cX7_stay 78 = .ok (.aload_n 0, 1) := by decide +kernel
theorem dX7_stay_79 : decode cX7_stay 79 = .ok (.getfield 29, 3) := by decide +kernel
theorem dX7_stay_82 : decode cX7_stay 82 = .ok (.iload 4, 2) := by decide +kernel
theorem dX7_stay_84 : decode cX7_stay 84 = .ok (.iaload, 1) := by decide +kernel
theorem dX7_stay_85 : decode cX7_stay 85 = .ok (.iaload, 1) := by decide +kernel
theorem dX7_stay_86 : decode cX7_stay 86 = .ok (.iastore, 1) := by decide +kernel
theorem dX7_stay_87 : decode cX7_stay 87 = .ok (.iconst 0, 1) := by decide +kernel
theorem dX7_stay_88 : decode cX7_stay 88 = .ok (.istore 5, 2) := by decide +kernel
theorem dX7_stay_90 : decode cX7_stay 90 = .ok (.iload 5, 2) := by decide +kernel
theorem dX7_stay_92 : decode cX7_stay 92 = .ok (.iload_n 3, 1) := by decide +kernel
theorem dX7_stay_93 : decode cX7_stay 93 = .ok (.if_icmp .ge 43, 3) := by decide +kernel
theorem dX7_stay_96 : decode cX7_stay 96 = .ok (.aload_n 0, 1) := by decide +kernel
theorem dX7_stay_97 : decode cX7_stay 97 = .ok (.getfield 20, 3) := by decide +kernel
theorem dX7_stay_100 : decode cX7_stay 100 = .ok (.iconst 4, 1) := by decide +kernel
theorem dX7_stay_101 : decode cX7_stay 101 = .ok (.aaload, 1) := by decide +kernel
theorem dX7_stay_102 : decode cX7_stay 102 = .ok (.iload 4, 2) := by decide +kernel
theorem dX7_stay_104 : decode cX7_stay 104 = .ok (.aaload, 1) := by decide +kernel
theorem dX7_stay_105 : decode cX7_stay 105 = .ok (.iload 5, 2) := by decide +kernel
theorem dX7_stay_107 : decode cX7_stay 107 = .ok (.aload_n 0, 1) := by decide +kernel
theorem dX7_stay_108 : decode cX7_stay 108 = .ok (.getfield 20, 3) := by decide +kernel
theorem dX7_stay_111 : decode cX7_stay 111 = .ok (.iload_n 1, 1) := by decide +kernel
theorem dX7_stay_112 : decode cX7_stay 112 = .ok (.aaload, 1) := by decide +kernel
theorem dX7_stay_113 : decode cX7_stay 113 = .ok (.aload_n 0, 1) := by decide +kernel
theorem dX7_stay_114 : decode cX7_stay 114 = .ok (.getfield 29, 3) := by decide +kernel
theorem dX7_stay_117 : decode cX7_stay 117 = .ok (.iload 4, 2) := by decide +kernel
theorem dX7_stay_119 : decode cX7_stay 119 = .ok (.iaload, 1) := by decide +kernel
theorem dX7_stay_120 : decode cX7_stay 120 = .ok (.aaload, 1) := by decide +kernel
theorem dX7_stay_121 : decode cX7_stay 121 = .ok (.aload_n 0, 1) := by decide +kernel
theorem dX7_stay_122 : decode cX7_stay 122 = .ok (.getfield 29, 3) := by decide +kernel
theorem dX7_stay_125 : decode cX7_stay 125 = .ok (.iload 5, 2) := by decide +kernel
theorem dX7_stay_127 : decode cX7_stay 127 = .ok (.iaload, 1) := by decide +kernel
theorem dX7_stay_128 : decode cX7_stay 128 = .ok (.baload, 1) := by decide +kernel
theorem dX7_stay_129 : decode cX7_stay 129 = .ok (.bastore, 1) := by decide +kernel
theorem dX7_stay_130 : decode cX7_stay 130 = .ok (.iinc 5 1, 3) := by decide +kernel
theorem dX7_stay_133 : decode cX7_stay 133 = .ok (.goto (-43), 3) := by decide +kernel
theorem dX7_stay_136 : decode cX7_stay 136 = .ok (.iinc 4 1, 3) := by decide +kernel
theorem dX7_stay_139 : decode cX7_stay 139 = .ok (.goto (-81), 3) := by decide +kernel
theorem dX7_stay_142 : decode cX7_stay 142 = .ok (.aload_n 0, 1) := by decide +kernel
theorem dX7_stay_143 : decode cX7_stay 143 = .ok (.iload_n 1, 1) := by decide +kernel
theorem dX7_stay_144 : decode cX7_stay 144 = .ok (.iconst 4, 1) := by decide +kernel
theorem dX7_stay_145 : decode cX7_stay 145 = .ok (.invokevirtual 63, 3) := by decide +kernel
theorem dX7_stay_148 : decode cX7_stay 148 = .ok (.return_, 1) := by decide +kernel
theorem dX7_drop_0 : decode cX7_drop 0 = .ok (.aload_n 0, 1) := by decide +kernel
theorem dX7_drop_1 : decode cX7_drop 1 = .ok (.aload_n 0, 1) := by decide +kernel
theorem dX7_drop_2 : decode cX7_drop 2 = .ok (.iload_n 1, 1) := by decide +kernel
theorem dX7_drop_3 : decode cX7_drop 3 = .ok (.iload_n 2, 1) := by decide +kernel
theorem dX7_drop_4 : decode cX7_drop 4 = .ok (.invokevirtual 66, 3) := by decide +kernel
theorem dX7_drop_7 : decode cX7_drop 7 = .ok (.iconst 1, 1) := by decide +kernel
theorem dX7_drop_8 : decode cX7_drop 8 = .ok (.invokevirtual 51, 3) := by decide +kernel
theorem dX7_drop_11 : decode cX7_drop 11 = .ok (.ifCond .ne 5, 3) := by decide +kernel
theorem dX7_drop_14 : decode cX7_drop 14 = .ok (.iconst 0, 1) := by decide +kernel
theorem dX7_drop_15 : decode cX7_drop 15 = .ok (.ireturn, 1) := by decide +kernel
theorem dX7_drop_16 : decode cX7_drop 16 = .ok (.aload_n 0, 1) := by decide +kernel
theorem dX7_drop_17 : decode cX7_drop 17 = .ok (.getfield 15, 3) := by decide +kernel
theorem dX7_drop_20 : decode cX7_drop 20 = .ok (.iload_n 1, 1) := by decide +kernel
theorem dX7_drop_21 : decode cX7_drop 21 = .ok (.aaload, 1) := by decide +kernel
theorem dX7_drop_22 : decode cX7_drop 22 = .ok (.iload_n 2, 1) := by decide +kernel
theorem dX7_drop_23 : decode cX7_drop 23 = .ok (.iaload, 1) := by decide +kernel
theorem dX7_drop_24 : decode cX7_drop 24 = .ok (.istore_n 3, 1) := by decide +kernel
theorem dX7_drop_25 : decode cX7_drop 25 = .ok (.aload_n 0, 1) := by decide +kernel
theorem dX7_drop_26 : decode cX7_drop 26 = .ok (.iload_n 1, 1) := by decide +kernel
theorem dX7_drop_27 : decode cX7_drop 27 = .ok (.iconst 1, 1) := by decide +kernel
theorem dX7_drop_28 : decode cX7_drop 28 = .ok (.aload_n 0, 1) := by decide +kernel
theorem dX7_drop_29 : decode cX7_drop 29 = .ok (.getfield 9, 3) := by decide +kernel
theorem dX7_drop_32 : decode cX7_drop 32 = .ok (.iload_n 1, 1) := by decide +kernel
theorem dX7_drop_33 : decode cX7_drop 33 = .ok (.iaload, 1) := by decide +kernel
theorem dX7_drop_34 : decode cX7_drop 34 = .ok (.ishl, 1) := by decide +kernel
theorem dX7_drop_35 : decode cX7_drop 35 = .ok (.iconst 1, 1) := by decide +kernel
theorem dX7_drop_36 : decode cX7_drop 36 = .ok (.isub, 1) := by decide +kernel
theorem dX7_drop_37 : decode cX7_drop 37 = .ok (.iconst 1, 1) := by decide +kernel
theorem dX7_drop_38 : decode cX7_drop 38 = .ok (.iload_n 2, 1) := by decide +kernel
theorem dX7_drop_39 : decode cX7_drop 39 = .ok (.ishl, 1) := by decide +kernel
theorem dX7_drop_40 : decode cX7_drop 40 = .ok (.isub, 1) := by decide +kernel
theorem dX7_drop_41 : decode cX7_drop 41 = .ok (.invokevirtual 69, 3) := by decide +kernel
theorem dX7_drop_44 : decode cX7_drop 44 = .ok (.iload_n 3, 1) := by decide +kernel
theorem dX7_drop_45 : decode cX7_drop 45 = .ok (.ireturn, 1) := by decide +kernel
theorem dX7_keep_0 : decode cX7_keep 0 = .ok (.aload_n 0, 1) := by decide +kernel
theorem dX7_keep_1 : decode cX7_keep 1 = .ok (.iload_n 1, 1) := by decide +kernel
theorem dX7_keep_2 : decode cX7_keep 2 = .ok (.invokestatic 43, 3) := by decide +kernel
theorem dX7_keep_5 : decode cX7_keep 5 = .ok (.iconst 1, 1) := by decide +kernel
theorem dX7_keep_6 : decode cX7_keep 6 = .ok (.invokevirtual 51, 3) := by decide +kernel
theorem dX7_keep_9 : decode cX7_keep 9 = .ok (.ifCond .eq 17, 3) := by decide +kernel
theorem dX7_keep_12 : decode cX7_keep 12 = .ok (.aload_n 0, 1) := by decide +kernel
theorem dX7_keep_13 : decode cX7_keep 13 = .ok (.aload_n 0, 1) := by decide +kernel
theorem dX7_keep_14 : decode cX7_keep 14 = .ok (.iload_n 1, 1) := by decide +kernel
theorem dX7_keep_15 : decode cX7_keep 15 = .ok (.iload_n 2, 1) := by decide +kernel
theorem dX7_keep_16 : decode cX7_keep 16 = .ok (.invokevirtual 72, 3) := by decide +kernel
theorem dX7_keep_19 : decode cX7_keep 19 = .ok (.iconst 2, 1) := by decide +kernel
theorem dX7_keep_20 : decode cX7_keep 20 = .ok (.invokevirtual 51, 3) := by decide +kernel
theorem dX7_keep_23 : decode cX7_keep 23 = .ok (.ifCond .ne 5, 3) := by decide +kernel
theorem dX7_keep_26 : decode cX7_keep 26 = .ok (.iconst 0, 1) := by decide +kernel
theorem dX7_keep_27 : decode cX7_keep 27 = .ok (.ireturn, 1) := by decide +kernel
theorem dX7_keep_28 : decode cX7_keep 28 = .ok (.aload_n 0, 1) := by decide +kernel
theorem dX7_keep_29 : decode cX7_keep 29 = .ok (.getfield 9, 3) := by decide +kernel
theorem dX7_keep_32 : decode cX7_keep 32 = .ok (.iload_n 1, 1) := by decide +kernel
theorem dX7_keep_33 : decode cX7_keep 33 = .ok (.iaload, 1) := by decide +kernel
theorem dX7_keep_34 : decode cX7_keep 34 = .ok (.istore_n 3, 1) := by decide +kernel
theorem dX7_keep_35 : decode cX7_keep 35 = .ok (.aload_n 0, 1) := by decide +kernel
theorem dX7_keep_36 : decode cX7_keep 36 = .ok (.iload_n 1, 1) := by decide +kernel
theorem dX7_keep_37 : decode cX7_keep 37 = .ok (.iload_n 2, 1) := by decide +kernel
theorem dX7_keep_38 : decode cX7_keep 38 = .ok (.invokevirtual 69, 3) := by decide +kernel
theorem dX7_keep_41 : decode cX7_keep 41 = .ok (.iload_n 3, 1) := by decide +kernel
theorem dX7_keep_42 : decode cX7_keep 42 = .ok (.aload_n 0, 1) := by decide +kernel
theorem dX7_keep_43 : decode cX7_keep 43 = .ok (.getfield 9, 3) := by decide +kernel
theorem dX7_keep_46 : decode cX7_keep 46 = .ok (.iload_n 1, 1) := by decide +kernel
theorem dX7_keep_47 : decode cX7_keep 47 = .ok (.iaload, 1) := by decide +kernel
theorem dX7_keep_48 : decode cX7_keep 48 = .ok (.isub, 1) := by decide +kernel
theorem dX7_keep_49 : decode cX7_keep 49 = .ok (.ireturn, 1) := by decide +kernel
theorem dX7_setValue_0 : decode cX7_setValue 0 = .ok (.aload_n 0, 1) := by decide +kernel
theorem dX7_setValue_1 : decode cX7_setValue 1 = .ok (.aload_n 0, 1) := by decide +kernel
theorem dX7_setValue_2 : decode cX7_setValue 2 = .ok (.iload_n 1, 1) := by decide +kernel
theorem dX7_setValue_3 : decode cX7_setValue 3 = .ok (.iload_n 2, 1) := by decide +kernel
theorem dX7_setValue_4 : decode cX7_setValue 4 = .ok (.invokevirtual 66, 3) := by decide +kernel
theorem dX7_setValue_7 : decode cX7_setValue 7 = .ok (.iconst 1, 1) := by decide +kernel
theorem dX7_setValue_8 : decode cX7_setValue 8 = .ok (.invokevirtual 51, 3) := by decide +kernel
theorem dX7_setValue_11 : decode cX7_setValue 11 = .ok (.ifCond .eq 21, 3) := by decide +kernel
theorem dX7_setValue_14 : decode cX7_setValue 14 = .ok (.aload_n 0, 1) := by decide +kernel
theorem dX7_setValue_15 : decode cX7_setValue 15 = .ok (.iload_n 3, 1) := by decide +kernel
theorem dX7_setValue_16 : decode cX7_setValue 16 = .ok (.sipush (-1000), 3) := by decide +kernel
theorem dX7_setValue_19 : decode cX7_setValue 19 = .ok (.sipush 1000, 3) := by decide +kernel
theorem dX7_setValue_22 : decode cX7_setValue 22 = .ok (.invokestatic 39, 3) := by decide +kernel
theorem dX7_setValue_25 : decode cX7_setValue 25 = .ok (.iconst 2, 1) := by decide +kernel
theorem dX7_setValue_26 : decode cX7_setValue 26 = .ok (.invokevirtual 51, 3) := by decide +kernel
theorem dX7_setValue_29 : decode cX7_setValue 29 = .ok (.ifCond .ne 5, 3) := by decide +kernel
theorem dX7_setValue_32 : decode cX7_setValue 32 = .ok (.iconst 0, 1) := by decide +kernel
theorem dX7_setValue_33 : decode cX7_setValue 33 = .ok (.ireturn, 1) := by decide +kernel
theorem dX7_setValue_34 : decode cX7_setValue 34 = .ok (.aload_n 0, 1) := by decide +kernel
theorem dX7_setValue_35 : decode cX7_setValue 35 = .ok (.getfield 15, 3) := by decide +kernel
theorem dX7_setValue_38 : decode cX7_setValue 38 = .ok (.iload_n 1, 1) := by decide +kernel
theorem dX7_setValue_39 : decode cX7_setValue 39 = .ok (.aaload, 1) := by decide +kernel
theorem dX7_setValue_40 : decode cX7_setValue 40 = .ok (.iload_n 2, 1) := by decide +kernel
theorem dX7_setValue_41 : decode cX7_setValue 41 = .ok (.iaload, 1) := by decide +kernel
theorem dX7_setValue_42 : decode cX7_setValue 42 = .ok (.istore 4, 2) := by decide +kernel
theorem dX7_setValue_44 : decode cX7_setValue 44 = .ok (.aload_n 0, 1) := by decide +kernel
theorem dX7_setValue_45 : decode cX7_setValue 45 = .ok (.getfield 15, 3) := by decide +kernel
theorem dX7_setValue_48 : decode cX7_setValue 48 = .ok (.iload_n 1, 1) := by decide +kernel
theorem dX7_setValue_49 : decode cX7_setValue 49 = .ok (.aaload, 1) := by decide +kernel
theorem dX7_setValue_50 : decode cX7_setValue 50 = .ok (.iload_n 2, 1) := by decide +kernel
theorem dX7_setValue_51 : decode cX7_setValue 51 = .ok (.iload_n 3, 1) := by decide +kernel
theorem dX7_setValue_52 : decode cX7_setValue 52 = .ok (.iastore, 1) := by decide +kernel
theorem dX7_setValue_53 : decode cX7_setValue 53 = .ok (.iload 4, 2) := by decide +kernel
theorem dX7_setValue_55 : decode cX7_setValue 55 = .ok (.ireturn, 1) := by decide +kernel
theorem dX7_isUpTo_0 : decode cX7_isUpTo 0 = .ok (.iload_n 2, 1) := by decide +kernel
theorem dX7_isUpTo_1 : decode cX7_isUpTo 1 = .ok (.iload_n 3, 1) := by decide +kernel
theorem dX7_isUpTo_2 : decode cX7_isUpTo 2 = .ok (.if_icmp .eq 16, 3) := by decide +kernel
theorem dX7_isUpTo_5 : decode cX7_isUpTo 5 = .ok (.aload_n 0, 1) := by decide +kernel
theorem dX7_isUpTo_6 : decode cX7_isUpTo 6 = .ok (.getfield 20, 3) := by decide +kernel
theorem dX7_isUpTo_9 : decode cX7_isUpTo 9 = .ok (.iload_n 1, 1) := by decide +kernel
theorem dX7_isUpTo_10 : decode cX7_isUpTo 10 = .ok (.aaload, 1) := by decide +kernel
theorem dX7_isUpTo_11 : decode cX7_isUpTo 11 = .ok (.iload_n 2, 1) := by decide +kernel
theorem dX7_isUpTo_12 : decode cX7_isUpTo 12 = .ok (.aaload, 1) := by decide +kernel
theorem dX7_isUpTo_13 : decode cX7_isUpTo 13 = .ok (.iload_n 3, 1) := by decide +kernel
theorem dX7_isUpTo_14 : decode cX7_isUpTo 14 = .ok (.baload, 1) := by decide +kernel
theorem dX7_isUpTo_15 : decode cX7_isUpTo 15 = .ok (.ifCond .eq 7, 3) := by decide +kernel
theorem dX7_isUpTo_18 : decode cX7_isUpTo 18 = .ok (.iconst 1, 1) := by decide +kernel
theorem dX7_isUpTo_19 : decode cX7_isUpTo 19 = .ok (.goto 4, 3) := by decide +kernel
theorem dX7_isUpTo_22 : decode cX7_isUpTo 22 = .ok (.iconst 0, 1) := by decide +kernel
theorem dX7_isUpTo_23 : decode cX7_isUpTo 23 = .ok (.ireturn, 1) := by decide +kernel
theorem dX7_put_0 : decode cX7_put 0 = .ok (.aload_n 0, 1) := by decide +kernel
theorem dX7_put_1 : decode cX7_put 1 = .ok (.aload_n 0, 1) := by decide +kernel
theorem dX7_put_2 : decode cX7_put 2 = .ok (.iload_n 1, 1) := by decide +kernel
theorem dX7_put_3 : decode cX7_put 3 = .ok (.iload_n 2, 1) := by decide +kernel
theorem dX7_put_4 : decode cX7_put 4 = .ok (.invokevirtual 66, 3) := by decide +kernel
theorem dX7_put_7 : decode cX7_put 7 = .ok (.ifCond .eq 16, 3) := by decide +kernel
theorem dX7_put_10 : decode cX7_put 10 = .ok (.aload_n 0, 1) := by decide +kernel
theorem dX7_put_11 : decode cX7_put 11 = .ok (.iload_n 1, 1) := by decide +kernel
theorem dX7_put_12 : decode cX7_put 12 = .ok (.iload_n 3, 1) := by decide +kernel
theorem dX7_put_13 : decode cX7_put 13 = .ok (.invokevirtual 66, 3) := by decide +kernel
theorem dX7_put_16 : decode cX7_put 16 = .ok (.ifCond .eq 7, 3) := by decide +kernel
theorem dX7_put_19 : decode cX7_put 19 = .ok (.iconst 1, 1) := by decide +kernel
theorem dX7_put_20 : decode cX7_put 20 = .ok (.goto 4, 3) := by decide +kernel
theorem dX7_put_23 : decode cX7_put 23 = .ok (.iconst 0, 1) := by decide +kernel
theorem dX7_put_24 : decode cX7_put 24 = .ok (.iconst 1, 1) := by decide +kernel
theorem dX7_put_25 : decode cX7_put 25 = .ok (.invokevirtual 51, 3) := by decide +kernel
theorem dX7_put_28 : decode cX7_put 28 = .ok (.ifCond .ne 5, 3) := by decide +kernel
theorem dX7_put_31 : decode cX7_put 31 = .ok (.iconst 0, 1) := by decide +kernel
theorem dX7_put_32 : decode cX7_put 32 = .ok (.ireturn, 1) := by decide +kernel
theorem dX7_put_33 : decode cX7_put 33 = .ok (.aload_n 0, 1) := by decide +kernel
theorem dX7_put_34 : decode cX7_put 34 = .ok (.iload_n 1, 1) := by decide +kernel
theorem dX7_put_35 : decode cX7_put 35 = .ok (.iload_n 3, 1) := by decide +kernel
theorem dX7_put_36 : decode cX7_put 36 = .ok (.iload_n 2, 1) := by decide +kernel
theorem dX7_put_37 : decode cX7_put 37 = .ok (.invokevirtual 75, 3) := by decide +kernel
theorem dX7_put_40 : decode cX7_put 40 = .ok (.ifCond .eq 6, 3) := by decide +kernel
theorem dX7_put_43 : decode cX7_put 43 = .ok (.bipush (-9), 2) := by decide +kernel
theorem dX7_put_45 : decode cX7_put 45 = .ok (.ireturn, 1) := by decide +kernel
theorem dX7_put_46 : decode cX7_put 46 = .ok (.aload_n 0, 1) := by decide +kernel
theorem dX7_put_47 : decode cX7_put 47 = .ok (.iload_n 1, 1) := by decide +kernel
theorem dX7_put_48 : decode cX7_put 48 = .ok (.invokevirtual 59, 3) := by decide +kernel
theorem dX7_put_51 : decode cX7_put 51 = .ok (.istore 4, 2) := by decide +kernel
theorem dX7_put_53 : decode cX7_put 53 = .ok (.iconst 0, 1) := by decide +kernel
theorem dX7_put_54 : decode cX7_put 54 = .ok (.istore 5, 2) := by decide +kernel
theorem dX7_put_56 : decode cX7_put 56 = .ok (.iload 5, 2) := by decide +kernel
theorem dX7_put_58 : decode cX7_put 58 = .ok (.aload_n 0, 1) := by decide +kernel
theorem dX7_put_59 : decode cX7_put 59 = .ok (.getfield 9, 3) := by decide +kernel
theorem dX7_put_62 : decode cX7_put 62 = .ok (.iload_n 1, 1) := by decide +kernel
theorem dX7_put_63 : decode cX7_put 63 = .ok (.iaload, 1) := by decide +kernel
theorem dX7_put_64 : decode cX7_put 64 = .ok (.if_icmp .ge 64, 3) := by decide +kernel
theorem dX7_put_67 : decode cX7_put 67 = .ok (.iconst 0, 1) := by decide +kernel
theorem dX7_put_68 : decode cX7_put 68 = .ok (.istore 6, 2) := by decide +kernel
theorem dX7_put_70 : decode cX7_put 70 = .ok (.iload 6, 2) := by decide +kernel
theorem dX7_put_72 : decode cX7_put 72 = .ok (.aload_n 0, 1) := by decide +kernel
theorem dX7_put_73 : decode cX7_put 73 = .ok (.getfield 9, 3) := by decide +kernel
theorem dX7_put_76 : decode cX7_put 76 = .ok (.iload_n 1, 1) := by decide +kernel
theorem dX7_put_77 : decode cX7_put 77 = .ok (.iaload, 1) := by decide +kernel
theorem dX7_put_78 : decode cX7_put 78 = .ok (.if_icmp .ge 44, 3) := by decide +kernel
theorem dX7_put_81 : decode cX7_put 81 = .ok (.aload_n 0, 1) := by decide +kernel
theorem dX7_put_82 : decode cX7_put 82 = .ok (.iload_n 1, 1) := by decide +kernel
theorem dX7_put_83 : decode cX7_put 83 = .ok (.iload 5, 2) := by decide +kernel
theorem dX7_put_85 : decode cX7_put 85 = .ok (.iload_n 2, 1) := by decide +kernel
theorem dX7_put_86 : decode cX7_put 86 = .ok (.invokevirtual 75, 3) := by decide +kernel
theorem dX7_put_89 : decode cX7_put 89 = .ok (.ifCond .eq 27, 3) := by decide +kernel
theorem dX7_put_92 : decode cX7_put 92 = .ok (.aload_n 0, 1) := by decide +kernel
theorem dX7_put_93 : decode cX7_put 93 = .ok (.iload_n 1, 1) := by decide +kernel
theorem dX7_put_94 : decode cX7_put 94 = .ok (.iload_n 3, 1) := by decide +kernel
theorem dX7_put_95 : decode cX7_put 95 = .ok (.iload 6, 2) := by decide +kernel
theorem dX7_put_97 : decode cX7_put 97 = .ok (.invokevirtual 75, 3) := by decide +kernel
theorem dX7_put_100 : decode cX7_put 100 = .ok (.ifCond .eq 16, 3) := by decide +kernel
theorem dX7_put_103 : decode cX7_put 103 = .ok (.aload_n 0, 1) := by decide +kernel
theorem dX7_put_104 : decode cX7_put 104 = .ok (.getfield 20, 3) := by decide +kernel
theorem dX7_put_107 : decode cX7_put 107 = .ok (.iload_n 1, 1) := by decide +kernel
theorem dX7_put_108 : decode cX7_put 108 = .ok (.aaload, 1) := by decide +kernel
theorem dX7_put_109 : decode cX7_put 109 = .ok (.iload 5, 2) := by decide +kernel
theorem dX7_put_111 : decode cX7_put 111 = .ok (.aaload, 1) := by decide +kernel
theorem dX7_put_112 : decode cX7_put 112 = .ok (.iload 6, 2) := by decide +kernel
theorem dX7_put_114 : decode cX7_put 114 = .ok (.iconst 1, 1) := by decide +kernel
theorem dX7_put_115 : decode cX7_put 115 = .ok (.bastore, 1) := by decide +kernel
theorem dX7_put_116 : decode cX7_put 116 = .ok (.iinc 6 1, 3) := by decide +kernel
theorem dX7_put_119 : decode cX7_put 119 = .ok (.goto (-49), 3) := by decide +kernel
theorem dX7_put_122 : decode cX7_put 122 = .ok (.iinc 5 1, 3) := by decide +kernel
theorem dX7_put_125 : decode cX7_put 125 = .ok (.goto (-69), 3) := by decide +kernel
theorem dX7_put_128 : decode cX7_put 128 = .ok (.aload_n 0, 1) := by decide +kernel
theorem dX7_put_129 : decode cX7_put 129 = .ok (.iload_n 1, 1) := by decide +kernel
theorem dX7_put_130 : decode cX7_put 130 = .ok (.invokevirtual 59, 3) := by decide +kernel
theorem dX7_put_133 : decode cX7_put 133 = .ok (.iload 4, 2) := by decide +kernel
theorem dX7_put_135 : decode cX7_put 135 = .ok (.isub, 1) := by decide +kernel
theorem dX7_put_136 : decode cX7_put 136 = .ok (.ireturn, 1) := by decide +kernel
theorem dX7_next_0 : decode cX7_next 0 = .ok (.aload_n 0, 1) := by decide +kernel
theorem dX7_next_1 : decode cX7_next 1 = .ok (.getfield 20, 3) := by decide +kernel
theorem dX7_next_4 : decode cX7_next 4 = .ok (.iload_n 1, 1) := by decide +kernel
theorem dX7_next_5 : decode cX7_next 5 = .ok (.aaload, 1) := by decide +kernel
theorem dX7_next_6 : decode cX7_next 6 = .ok (.iload_n 2, 1) := by decide +kernel
theorem dX7_next_7 : decode cX7_next 7 = .ok (.aaload, 1) := by decide +kernel
theorem dX7_next_8 : decode cX7_next 8 = .ok (.iload_n 3, 1) := by decide +kernel
theorem dX7_next_9 : decode cX7_next 9 = .ok (.baload, 1) := by decide +kernel
theorem dX7_next_10 : decode cX7_next 10 = .ok (.istore 4, 2) := by decide +kernel
theorem dX7_next_12 : decode cX7_next 12 = .ok (.iconst 0, 1) := by decide +kernel
theorem dX7_next_13 : decode cX7_next 13 = .ok (.istore 5, 2) := by decide +kernel
theorem dX7_next_15 : decode cX7_next 15 = .ok (.iload 5, 2) := by decide +kernel
theorem dX7_next_17 : decode cX7_next 17 = .ok (.aload_n 0, 1) := by decide +kernel
theorem dX7_next_18 : decode cX7_next 18 = .ok (.getfield 9, 3) := by decide +kernel
theorem dX7_next_21 : decode cX7_next 21 = .ok (.iload_n 1, 1) := by decide +kernel
theorem dX7_next_22 : decode cX7_next 22 = .ok (.iaload, 1) := by decide +kernel
theorem dX7_next_23 : decode cX7_next 23 = .ok (.if_icmp .ge 49, 3) := by decide +kernel
theorem dX7_next_26 : decode cX7_next 26 = .ok (.iload 4, 2) := by decide +kernel
theorem dX7_next_28 : decode cX7_next 28 = .ok (.ifCond .eq 35, 3) := by decide +kernel
theorem dX7_next_31 : decode cX7_next 31 = .ok (.aload_n 0, 1) := by decide +kernel
theorem dX7_next_32 : decode cX7_next 32 = .ok (.getfield 20, 3) := by decide +kernel
theorem dX7_next_35 : decode cX7_next 35 = .ok (.iload_n 1, 1) := by decide +kernel
theorem dX7_next_36 : decode cX7_next 36 = .ok (.aaload, 1) := by decide +kernel
theorem dX7_next_37 : decode cX7_next 37 = .ok (.iload_n 2, 1) := by decide +kernel
theorem dX7_next_38 : decode cX7_next 38 = .ok (.aaload, 1) := by decide +kernel
theorem dX7_next_39 : decode cX7_next 39 = .ok (.iload 5, 2) := by decide +kernel
theorem dX7_next_41 : decode cX7_next 41 = .ok (.baload, 1) := by decide +kernel
theorem dX7_next_42 : decode cX7_next 42 = .ok (.ifCond .eq 17, 3) := by decide +kernel
theorem dX7_next_45 : decode cX7_next 45 = .ok (.aload_n 0, 1) := by decide +kernel
theorem dX7_next_46 : decode cX7_next 46 = .ok (.getfield 20, 3) := by decide +kernel
theorem dX7_next_49 : decode cX7_next 49 = .ok (.iload_n 1, 1) := by decide +kernel
theorem dX7_next_50 : decode cX7_next 50 = .ok (.aaload, 1) := by decide +kernel
theorem dX7_next_51 : decode cX7_next 51 = .ok (.iload 5, 2) := by decide +kernel
theorem dX7_next_53 : decode cX7_next 53 = .ok (.aaload, 1) := by decide +kernel
theorem dX7_next_54 : decode cX7_next 54 = .ok (.iload_n 3, 1) := by decide +kernel
theorem dX7_next_55 : decode cX7_next 55 = .ok (.baload, 1) := by decide +kernel
theorem dX7_next_56 : decode cX7_next 56 = .ok (.ifCond .ne 7, 3) := by decide +kernel
theorem dX7_next_59 : decode cX7_next 59 = .ok (.iconst 1, 1) := by decide +kernel
theorem dX7_next_60 : decode cX7_next 60 = .ok (.goto 4, 3) := by decide +kernel
theorem dX7_next_63 : decode cX7_next 63 = .ok (.iconst 0, 1) := by decide +kernel
theorem dX7_next_64 : decode cX7_next 64 = .ok (.istore 4, 2) := by decide +kernel
theorem dX7_next_66 : decode cX7_next 66 = .ok (.iinc 5 1, 3) := by decide +kernel
theorem dX7_next_69 : decode cX7_next 69 = .ok (.goto (-54), 3) := by decide +kernel
theorem dX7_next_72 : decode cX7_next 72 = .ok (.iload 4, 2) := by decide +kernel
theorem dX7_next_74 : decode cX7_next 74 = .ok (.ireturn, 1) := by decide +kernel
theorem dX7_loose_0 : decode cX7_loose 0 = .ok (.aload_n 0, 1) := by decide +kernel
theorem dX7_loose_1 : decode cX7_loose 1 = .ok (.aload_n 0, 1) := by decide +kernel
theorem dX7_loose_2 : decode cX7_loose 2 = .ok (.iload_n 1, 1) := by decide +kernel
theorem dX7_loose_3 : decode cX7_loose 3 = .ok (.iload_n 2, 1) := by decide +kernel
theorem dX7_loose_4 : decode cX7_loose 4 = .ok (.invokevirtual 66, 3) := by decide +kernel
theorem dX7_loose_7 : decode cX7_loose 7 = .ok (.ifCond .eq 16, 3) := by decide +kernel
theorem dX7_loose_10 : decode cX7_loose 10 = .ok (.aload_n 0, 1) := by decide +kernel
theorem dX7_loose_11 : decode cX7_loose 11 = .ok (.iload_n 1, 1) := by decide +kernel
theorem dX7_loose_12 : decode cX7_loose 12 = .ok (.iload_n 3, 1) := by decide +kernel
theorem dX7_loose_13 : decode cX7_loose 13 = .ok (.invokevirtual 66, 3) := by decide +kernel
theorem dX7_loose_16 : decode cX7_loose 16 = .ok (.ifCond .eq 7, 3) := by decide +kernel
theorem dX7_loose_19 : decode cX7_loose 19 = .ok (.iconst 1, 1) := by decide +kernel
theorem dX7_loose_20 : decode cX7_loose 20 = .ok (.goto 4, 3) := by decide +kernel
theorem dX7_loose_23 : decode cX7_loose 23 = .ok (.iconst 0, 1) := by decide +kernel
theorem dX7_loose_24 : decode cX7_loose 24 = .ok (.iconst 1, 1) := by decide +kernel
theorem dX7_loose_25 : decode cX7_loose 25 = .ok (.invokevirtual 51, 3) := by decide +kernel
theorem dX7_loose_28 : decode cX7_loose 28 = .ok (.ifCond .ne 5, 3) := by decide +kernel
theorem dX7_loose_31 : decode cX7_loose 31 = .ok (.iconst 0, 1) := by decide +kernel
theorem dX7_loose_32 : decode cX7_loose 32 = .ok (.ireturn, 1) := by decide +kernel
theorem dX7_loose_33 : decode cX7_loose 33 = .ok (.aload_n 0, 1) := by decide +kernel
theorem dX7_loose_34 : decode cX7_loose 34 = .ok (.iload_n 1, 1) := by decide +kernel
theorem dX7_loose_35 : decode cX7_loose 35 = .ok (.iload_n 2, 1) := by decide +kernel
theorem dX7_loose_36 : decode cX7_loose 36 = .ok (.iload_n 3, 1) := by decide +kernel
theorem dX7_loose_37 : decode cX7_loose 37 = .ok (.invokevirtual 78, 3) := by decide +kernel
theorem dX7_loose_40 : decode cX7_loose 40 = .ok (.ifCond .ne 6, 3) := by decide +kernel
theorem dX7_loose_43 : decode cX7_loose 43 = .ok (.bipush (-9), 2) := by decide +kernel
theorem dX7_loose_45 : decode cX7_loose 45 = .ok (.ireturn, 1) := by decide +kernel
theorem dX7_loose_46 : decode cX7_loose 46 = .ok (.aload_n 0, 1) := by decide +kernel
theorem dX7_loose_47 : decode cX7_loose 47 = .ok (.getfield 20, 3) := by decide +kernel
theorem dX7_loose_50 : decode cX7_loose 50 = .ok (.iload_n 1, 1) := by decide +kernel
theorem dX7_loose_51 : decode cX7_loose 51 = .ok (.aaload, 1) := by decide +kernel
theorem dX7_loose_52 : decode cX7_loose 52 = .ok (.iload_n 2, 1) := by decide +kernel
theorem dX7_loose_53 : decode cX7_loose 53 = .ok (.aaload, 1) := by decide +kernel
theorem dX7_loose_54 : decode cX7_loose 54 = .ok (.iload_n 3, 1) := by decide +kernel
theorem dX7_loose_55 : decode cX7_loose 55 = .ok (.iconst 0, 1) := by decide +kernel
theorem dX7_loose_56 : decode cX7_loose 56 = .ok (.bastore, 1) := by decide +kernel
theorem dX7_loose_57 : decode cX7_loose 57 = .ok (.aload_n 0, 1) := by decide +kernel
theorem dX7_loose_58 : decode cX7_loose 58 = .ok (.iload_n 1, 1) := by decide +kernel
theorem dX7_loose_59 : decode cX7_loose 59 = .ok (.invokevirtual 59, 3) := by decide +kernel
theorem dX7_loose_62 : decode cX7_loose 62 = .ok (.ireturn, 1) := by decide +kernel
theorem dX7_lowerOf_0 : decode cX7_lowerOf 0 = .ok (.iconst 0, 1) := by decide +kernel
theorem dX7_lowerOf_1 : decode cX7_lowerOf 1 = .ok (.istore_n 3, 1) := by decide +kernel
theorem dX7_lowerOf_2 : decode cX7_lowerOf 2 = .ok (.iconst 0, 1) := by decide +kernel
theorem dX7_lowerOf_3 : decode cX7_lowerOf 3 = .ok (.istore 4, 2) := by decide +kernel
theorem dX7_lowerOf_5 : decode cX7_lowerOf 5 = .ok (.iload 4, 2) := by decide +kernel
theorem dX7_lowerOf_7 : decode cX7_lowerOf 7 = .ok (.aload_n 0, 1) := by decide +kernel
theorem dX7_lowerOf_8 : decode cX7_lowerOf 8 = .ok (.getfield 9, 3) := by decide +kernel
theorem dX7_lowerOf_11 : decode cX7_lowerOf 11 = .ok (.iload_n 1, 1) := by decide +kernel
theorem dX7_lowerOf_12 : decode cX7_lowerOf 12 = .ok (.iaload, 1) := by decide +kernel
theorem dX7_lowerOf_13 : decode cX7_lowerOf 13 = .ok (.if_icmp .ge 34, 3) := by decide +kernel
theorem dX7_lowerOf_16 : decode cX7_lowerOf 16 = .ok (.iload_n 3, 1) := by decide +kernel
theorem dX7_lowerOf_17 : decode cX7_lowerOf 17 = .ok (.aload_n 0, 1) := by decide +kernel
theorem dX7_lowerOf_18 : decode cX7_lowerOf 18 = .ok (.getfield 20, 3) := by decide +kernel
theorem dX7_lowerOf_21 : decode cX7_lowerOf 21 = .ok (.iload_n 1, 1) := by decide +kernel
theorem dX7_lowerOf_22 : decode cX7_lowerOf 22 = .ok (.aaload, 1) := by decide +kernel
theorem dX7_lowerOf_23 : decode cX7_lowerOf 23 = .ok (.iload 4, 2) := by decide +kernel
theorem dX7_lowerOf_25 : decode cX7_lowerOf 25 = .ok (.aaload, 1) := by decide +kernel
theorem dX7_lowerOf_26 : decode cX7_lowerOf 26 = .ok (.iload_n 2, 1) := by decide +kernel
theorem dX7_lowerOf_27 : decode cX7_lowerOf 27 = .ok (.baload, 1) := by decide +kernel
theorem dX7_lowerOf_28 : decode cX7_lowerOf 28 = .ok (.ifCond .eq 10, 3) := by decide +kernel
theorem dX7_lowerOf_31 : decode cX7_lowerOf 31 = .ok (.iconst 1, 1) := by decide +kernel
theorem dX7_lowerOf_32 : decode cX7_lowerOf 32 = .ok (.iload 4, 2) := by decide +kernel
theorem dX7_lowerOf_34 : decode cX7_lowerOf 34 = .ok (.ishl, 1) := by decide +kernel
theorem dX7_lowerOf_35 : decode cX7_lowerOf 35 = .ok (.goto 4, 3) := by decide +kernel
theorem dX7_lowerOf_38 : decode cX7_lowerOf 38 = .ok (.iconst 0, 1) := by decide +kernel
theorem dX7_lowerOf_39 : decode cX7_lowerOf 39 = .ok (.iadd, 1) := by decide +kernel
theorem dX7_lowerOf_40 : decode cX7_lowerOf 40 = .ok (.istore_n 3, 1) := by decide +kernel
theorem dX7_lowerOf_41 : decode cX7_lowerOf 41 = .ok (.iinc 4 1, 3) := by decide +kernel
theorem dX7_lowerOf_44 : decode cX7_lowerOf 44 = .ok (.goto (-39), 3) := by decide +kernel
theorem dX7_lowerOf_47 : decode cX7_lowerOf 47 = .ok (.iload_n 3, 1) := by decide +kernel
theorem dX7_lowerOf_48 : decode cX7_lowerOf 48 = .ok (.ireturn, 1) := by decide +kernel
theorem dX7_follow_0 : decode cX7_follow 0 = .ok (.iconst 1, 1) := by decide +kernel
theorem dX7_follow_1 : decode cX7_follow 1 = .ok (.aload_n 0, 1) := by decide +kernel
theorem dX7_follow_2 : decode cX7_follow 2 = .ok (.getfield 9, 3) := by decide +kernel
theorem dX7_follow_5 : decode cX7_follow 5 = .ok (.iload_n 1, 1) := by decide +kernel
theorem dX7_follow_6 : decode cX7_follow 6 = .ok (.iaload, 1) := by decide +kernel
theorem dX7_follow_7 : decode cX7_follow 7 = .ok (.ishl, 1) := by decide +kernel
theorem dX7_follow_8 : decode cX7_follow 8 = .ok (.iconst 1, 1) := by decide +kernel
theorem dX7_follow_9 : decode cX7_follow 9 = .ok (.isub, 1) := by decide +kernel
theorem dX7_follow_10 : decode cX7_follow 10 = .ok (.istore 5, 2) := by decide +kernel
theorem dX7_follow_12 : decode cX7_follow 12 = .ok (.iconst 0, 1) := by decide +kernel
theorem dX7_follow_13 : decode cX7_follow 13 = .ok (.istore 6, 2) := by decide +kernel
theorem dX7_follow_15 : decode cX7_follow 15 = .ok (.iload 6, 2) := by decide +kernel
theorem dX7_follow_17 : decode cX7_follow 17 = .ok (.aload_n 0, 1) := by decide +kernel
theorem dX7_follow_18 : decode cX7_follow 18 = .ok (.getfield 9, 3) := by decide +kernel
theorem dX7_follow_21 : decode cX7_follow 21 = .ok (.iload_n 1, 1) := by decide +kernel
theorem dX7_follow_22 : decode cX7_follow 22 = .ok (.iaload, 1) := by decide +kernel
theorem dX7_follow_23 : decode cX7_follow 23 = .ok (.if_icmp .ge 23, 3) := by decide +kernel
theorem dX7_follow_26 : decode cX7_follow 26 = .ok (.aload_n 0, 1) := by decide +kernel
theorem dX7_follow_27 : decode cX7_follow 27 = .ok (.getfield 32, 3) := by decide +kernel
theorem dX7_follow_30 : decode cX7_follow 30 = .ok (.iload 6, 2) := by decide +kernel
theorem dX7_follow_32 : decode cX7_follow 32 = .ok (.aload_n 0, 1) := by decide +kernel
theorem dX7_follow_33 : decode cX7_follow 33 = .ok (.iload_n 1, 1) := by decide +kernel
theorem dX7_follow_34 : decode cX7_follow 34 = .ok (.iload 6, 2) := by decide +kernel
theorem dX7_follow_36 : decode cX7_follow 36 = .ok (.invokevirtual 95, 3) := by decide +kernel
theorem dX7_follow_39 : decode cX7_follow 39 = .ok (.iastore, 1) := by decide +kernel
theorem dX7_follow_40 : decode cX7_follow 40 = .ok (.iinc 6 1, 3) := by decide +kernel
theorem dX7_follow_43 : decode cX7_follow 43 = .ok (.goto (-28), 3) := by decide +kernel
theorem dX7_follow_46 : decode cX7_follow 46 = .ok (.aload_n 0, 1) := by decide +kernel
theorem dX7_follow_47 : decode cX7_follow 47 = .ok (.getfield 23, 3) := by decide +kernel
theorem dX7_follow_50 : decode cX7_follow 50 = .ok (.iload 5, 2) := by decide +kernel
theorem dX7_follow_52 : decode cX7_follow 52 = .ok (.iconst 1, 1) := by decide +kernel
theorem dX7_follow_53 : decode cX7_follow 53 = .ok (.iastore, 1) := by decide +kernel
theorem dX7_follow_54 : decode cX7_follow 54 = .ok (.iload 5, 2) := by decide +kernel
theorem dX7_follow_56 : decode cX7_follow 56 = .ok (.iconst 1, 1) := by decide +kernel
theorem dX7_follow_57 : decode cX7_follow 57 = .ok (.isub, 1) := by decide +kernel
theorem dX7_follow_58 : decode cX7_follow 58 = .ok (.istore 6, 2) := by decide +kernel
theorem dX7_follow_60 : decode cX7_follow 60 = .ok (.iload 6, 2) := by decide +kernel
theorem dX7_follow_62 : decode cX7_follow 62 = .ok (.ifCond .lt 172, 3) := by decide +kernel
theorem dX7_follow_65 : decode cX7_follow 65 = .ok (.iconst 0, 1) := by decide +kernel
theorem dX7_follow_66 : decode cX7_follow 66 = .ok (.istore 7, 2) := by decide +kernel
theorem dX7_follow_68 : decode cX7_follow 68 = .ok (.iconst 0, 1) := by decide +kernel
theorem dX7_follow_69 : decode cX7_follow 69 = .ok (.istore 8, 2) := by decide +kernel
theorem dX7_follow_71 : decode cX7_follow 71 = .ok (.iload 8, 2) := by decide +kernel
theorem dX7_follow_73 : decode cX7_follow 73 = .ok (.aload_n 0, 1) := by decide +kernel
theorem dX7_follow_74 : decode cX7_follow 74 = .ok (.getfield 9, 3) := by decide +kernel
theorem dX7_follow_77 : decode cX7_follow 77 = .ok (.iload_n 1, 1) := by decide +kernel
theorem dX7_follow_78 : decode cX7_follow 78 = .ok (.iaload, 1) := by decide +kernel
theorem dX7_follow_79 : decode cX7_follow 79 = .ok (.if_icmp .ge 140, 3) := by decide +kernel
theorem dX7_follow_82 : decode cX7_follow 82 = .ok (.iload 6, 2) := by decide +kernel
theorem dX7_follow_84 : decode cX7_follow 84 = .ok (.iload 8, 2) := by decide +kernel
theorem dX7_follow_86 : decode cX7_follow 86 = .ok (.invokestatic 47, 3) := by decide +kernel
theorem dX7_follow_89 : decode cX7_follow 89 = .ok (.ifCond .ne 27, 3) := by decide +kernel
theorem dX7_follow_92 : decode cX7_follow 92 = .ok (.aload_n 0, 1) := by decide +kernel
theorem dX7_follow_93 : decode cX7_follow 93 = .ok (.getfield 32, 3) := by decide +kernel
theorem dX7_follow_96 : decode cX7_follow 96 = .ok (.iload 8, 2) := by decide +kernel
theorem dX7_follow_98 : decode cX7_follow 98 = .ok (.iaload, 1) := by decide +kernel
theorem dX7_follow_99 : decode cX7_follow 99 = .ok (.iload 6, 2) := by decide +kernel
theorem dX7_follow_101 : decode cX7_follow 101 = .ok (.iand, 1) := by decide +kernel
theorem dX7_follow_102 : decode cX7_follow 102 = .ok (.aload_n 0, 1) := by decide +kernel
theorem dX7_follow_103 : decode cX7_follow 103 = .ok (.getfield 32, 3) := by decide +kernel
theorem dX7_follow_106 : decode cX7_follow 106 = .ok (.iload 8, 2) := by decide +kernel
theorem dX7_follow_108 : decode cX7_follow 108 = .ok (.iaload, 1) := by decide +kernel
theorem dX7_follow_109 : decode cX7_follow 109 = .ok (.if_icmp .ne 7, 3) := by decide +kernel
theorem dX7_follow_112 : decode cX7_follow 112 = .ok (.iconst 1, 1) := by decide +kernel
theorem dX7_follow_113 : decode cX7_follow 113 = .ok (.goto 4, 3) := by decide +kernel
theorem dX7_follow_116 : decode cX7_follow 116 = .ok (.iconst 0, 1) := by decide +kernel
theorem dX7_follow_117 : decode cX7_follow 117 = .ok (.istore 9, 2) := by decide +kernel
theorem dX7_follow_119 : decode cX7_follow 119 = .ok (.iload_n 2, 1) := by decide +kernel
theorem dX7_follow_120 : decode cX7_follow 120 = .ok (.iconst (-1), 1) := by decide +kernel
theorem dX7_follow_121 : decode cX7_follow 121 = .ok (.if_icmp .eq 54, 3) := by decide +kernel
theorem dX7_follow_124 : decode cX7_follow 124 = .ok (.iload 4, 2) := by decide +kernel
theorem dX7_follow_126 : decode cX7_follow 126 = .ok (.ifCond .eq 34, 3) := by decide +kernel
theorem dX7_follow_129 : decode cX7_follow 129 = .ok (.iload 8, 2) := by decide +kernel
theorem dX7_follow_131 : decode cX7_follow 131 = .ok (.iload_n 2, 1) := by decide +kernel
theorem dX7_follow_132 : decode cX7_follow 132 = .ok (.if_icmp .ne 7, 3) := by decide +kernel
theorem dX7_follow_135 : decode cX7_follow 135 = .ok (.iconst 1, 1) := by decide +kernel
theorem dX7_follow_136 : decode cX7_follow 136 = .ok (.goto 4, 3) := by decide +kernel
theorem dX7_follow_139 : decode cX7_follow 139 = .ok (.iconst 0, 1) := by decide +kernel
theorem dX7_follow_140 : decode cX7_follow 140 = .ok (.iload 6, 2) := by decide +kernel
theorem dX7_follow_142 : decode cX7_follow 142 = .ok (.invokestatic 108, 3) := by decide +kernel
theorem dX7_follow_145 : decode cX7_follow 145 = .ok (.iload_n 3, 1) := by decide +kernel
theorem dX7_follow_146 : decode cX7_follow 146 = .ok (.if_icmp .ne 7, 3) := by decide +kernel
theorem dX7_follow_149 : decode cX7_follow 149 = .ok (.iconst 1, 1) := by decide +kernel
theorem dX7_follow_150 : decode cX7_follow 150 = .ok (.goto 4, 3) := by decide +kernel
theorem dX7_follow_153 : decode cX7_follow 153 = .ok (.iconst 0, 1) := by decide +kernel
theorem dX7_follow_154 : decode cX7_follow 154 = .ok (.if_icmp .ne 25, 3) := by decide +kernel
theorem dX7_follow_157 : decode cX7_follow 157 = .ok (.goto 18, 3) := by decide +kernel
theorem dX7_follow_160 : decode cX7_follow 160 = .ok (.iload 8, 2) := by decide +kernel
theorem dX7_follow_162 : decode cX7_follow 162 = .ok (.iload_n 3, 1) := by decide +kernel
theorem dX7_follow_163 : decode cX7_follow 163 = .ok (.if_icmp .ne 12, 3) := by decide +kernel
theorem dX7_follow_166 : decode cX7_follow 166 = .ok (.iload 6, 2) := by decide +kernel
theorem dX7_follow_168 : decode cX7_follow 168 = .ok (.iload_n 2, 1) := by decide +kernel
theorem dX7_follow_169 : decode cX7_follow 169 = .ok (.invokestatic 47, 3) := by decide +kernel
theorem dX7_follow_172 : decode cX7_follow 172 = .ok (.ifCond .eq 7, 3) := by decide +kernel
theorem dX7_follow_175 : decode cX7_follow 175 = .ok (.iconst 1, 1) := by decide +kernel
theorem dX7_follow_176 : decode cX7_follow 176 = .ok (.goto 4, 3) := by decide +kernel
theorem dX7_follow_179 : decode cX7_follow 179 = .ok (.iconst 0, 1) := by decide +kernel
theorem dX7_follow_180 : decode cX7_follow 180 = .ok (.istore 10, 2) := by decide +kernel
theorem dX7_follow_182 : decode cX7_follow 182 = .ok (.iload 7, 2) := by decide +kernel
theorem dX7_follow_184 : decode cX7_follow 184 = .ok (.iload 9, 2) := by decide +kernel
theorem dX7_follow_186 : decode cX7_follow 186 = .ok (.ifCond .eq 23, 3) := by decide +kernel
theorem dX7_follow_189 : decode cX7_follow 189 = .ok (.iload 10, 2) := by decide +kernel
theorem dX7_follow_191 : decode cX7_follow 191 = .ok (.ifCond .eq 18, 3) := by decide +kernel
theorem dX7_follow_194 : decode cX7_follow 194 = .ok (.aload_n 0, 1) := by decide +kernel
theorem dX7_follow_195 : decode cX7_follow 195 = .ok (.getfield 23, 3) := by decide +kernel
theorem dX7_follow_198 : decode cX7_follow 198 = .ok (.iload 6, 2) := by decide +kernel
theorem dX7_follow_200 : decode cX7_follow 200 = .ok (.iconst 1, 1) := by decide +kernel
theorem dX7_follow_201 : decode cX7_follow 201 = .ok (.iload 8, 2) := by decide +kernel
theorem dX7_follow_203 : decode cX7_follow 203 = .ok (.ishl, 1) := by decide +kernel
theorem dX7_follow_204 : decode cX7_follow 204 = .ok (.iadd, 1) := by decide +kernel
theorem dX7_follow_205 : decode cX7_follow 205 = .ok (.iaload, 1) := by decide +kernel
theorem dX7_follow_206 : decode cX7_follow 206 = .ok (.goto 4, 3) := by decide +kernel
theorem dX7_follow_209 : decode cX7_follow 209 = .ok (.iconst 0, 1) := by decide +kernel
theorem dX7_follow_210 : decode cX7_follow 210 = .ok (.iadd, 1) := by decide +kernel
theorem dX7_follow_211 : decode cX7_follow 211 = .ok (.istore 7, 2) := by decide +kernel
theorem dX7_follow_213 : decode cX7_follow 213 = .ok (.iinc 8 1, 3) := by decide +kernel
theorem dX7_follow_216 : decode cX7_follow 216 = .ok (.goto (-145), 3) := by decide +kernel
theorem dX7_follow_219 : decode cX7_follow 219 = .ok (.aload_n 0, 1) := by decide +kernel
theorem dX7_follow_220 : decode cX7_follow 220 = .ok (.getfield 23, 3) := by decide +kernel
theorem dX7_follow_223 : decode cX7_follow 223 = .ok (.iload 6, 2) := by decide +kernel
theorem dX7_follow_225 : decode cX7_follow 225 = .ok (.iload 7, 2) := by decide +kernel
theorem dX7_follow_227 : decode cX7_follow 227 = .ok (.iastore, 1) := by decide +kernel
theorem dX7_follow_228 : decode cX7_follow 228 = .ok (.iinc 6 (-1), 3) := by decide +kernel
theorem dX7_follow_231 : decode cX7_follow 231 = .ok (.goto (-171), 3) := by decide +kernel
theorem dX7_follow_234 : decode cX7_follow 234 = .ok (.aload_n 0, 1) := by decide +kernel
theorem dX7_follow_235 : decode cX7_follow 235 = .ok (.getfield 23, 3) := by decide +kernel
theorem dX7_follow_238 : decode cX7_follow 238 = .ok (.iconst 0, 1) := by decide +kernel
theorem dX7_follow_239 : decode cX7_follow 239 = .ok (.iaload, 1) := by decide +kernel
theorem dX7_follow_240 : decode cX7_follow 240 = .ok (.ireturn, 1) := by decide +kernel
theorem dX7_rowsOf_0 : decode cX7_rowsOf 0 = .ok (.aload_n 0, 1) := by decide +kernel
theorem dX7_rowsOf_1 : decode cX7_rowsOf 1 = .ok (.iload_n 1, 1) := by decide +kernel
theorem dX7_rowsOf_2 : decode cX7_rowsOf 2 = .ok (.iconst (-1), 1) := by decide +kernel
theorem dX7_rowsOf_3 : decode cX7_rowsOf 3 = .ok (.iconst (-1), 1) := by decide +kernel
theorem dX7_rowsOf_4 : decode cX7_rowsOf 4 = .ok (.iconst 0, 1) := by decide +kernel
theorem dX7_rowsOf_5 : decode cX7_rowsOf 5 = .ok (.invokevirtual 133, 3) := by decide +kernel
theorem dX7_rowsOf_8 : decode cX7_rowsOf 8 = .ok (.ireturn, 1) := by decide +kernel
theorem dX7_lineUp_0 : decode cX7_lineUp 0 = .ok (.aload_n 0, 1) := by decide +kernel
theorem dX7_lineUp_1 : decode cX7_lineUp 1 = .ok (.iload_n 1, 1) := by decide +kernel
theorem dX7_lineUp_2 : decode cX7_lineUp 2 = .ok (.invokevirtual 81, 3) := by decide +kernel
theorem dX7_lineUp_5 : decode cX7_lineUp 5 = .ok (.pop, 1) := by decide +kernel
theorem dX7_lineUp_6 : decode cX7_lineUp 6 = .ok (.iload_n 2, 1) := by decide +kernel
theorem dX7_lineUp_7 : decode cX7_lineUp 7 = .ok (.istore_n 3, 1) := by decide +kernel
theorem dX7_lineUp_8 : decode cX7_lineUp 8 = .ok (.iconst 0, 1) := by decide +kernel
theorem dX7_lineUp_9 : decode cX7_lineUp 9 = .ok (.istore 4, 2) := by decide +kernel
theorem dX7_lineUp_11 : decode cX7_lineUp 11 = .ok (.iconst 0, 1) := by decide +kernel
theorem dX7_lineUp_12 : decode cX7_lineUp 12 = .ok (.istore 5, 2) := by decide +kernel
theorem dX7_lineUp_14 : decode cX7_lineUp 14 = .ok (.iconst 0, 1) := by decide +kernel
theorem dX7_lineUp_15 : decode cX7_lineUp 15 = .ok (.istore 6, 2) := by decide +kernel
theorem dX7_lineUp_17 : decode cX7_lineUp 17 = .ok (.iload 6, 2) := by decide +kernel
theorem dX7_lineUp_19 : decode cX7_lineUp 19 = .ok (.aload_n 0, 1) := by decide +kernel
theorem dX7_lineUp_20 : decode cX7_lineUp 20 = .ok (.getfield 9, 3) := by decide +kernel
theorem dX7_lineUp_23 : decode cX7_lineUp 23 = .ok (.iload_n 1, 1) := by decide +kernel
theorem dX7_lineUp_24 : decode cX7_lineUp 24 = .ok (.iaload, 1) := by decide +kernel
theorem dX7_lineUp_25 : decode cX7_lineUp 25 = .ok (.if_icmp .ge 155, 3) := by decide +kernel
theorem dX7_lineUp_28 : decode cX7_lineUp 28 = .ok (.iconst 0, 1) := by decide +kernel
theorem dX7_lineUp_29 : decode cX7_lineUp 29 = .ok (.istore 7, 2) := by decide +kernel
theorem dX7_lineUp_31 : decode cX7_lineUp 31 = .ok (.iconst 0, 1) := by decide +kernel
theorem dX7_lineUp_32 : decode cX7_lineUp 32 = .ok (.istore 8, 2) := by decide +kernel
theorem dX7_lineUp_34 : decode cX7_lineUp 34 = .ok (.iload 8, 2) := by decide +kernel
theorem dX7_lineUp_36 : decode cX7_lineUp 36 = .ok (.ifCond .ne 108, 3) := by decide +kernel
theorem dX7_lineUp_39 : decode cX7_lineUp 39 = .ok (.iload 4, 2) := by decide +kernel
theorem dX7_lineUp_41 : decode cX7_lineUp 41 = .ok (.iload 7, 2) := by decide +kernel
theorem dX7_lineUp_43 : decode cX7_lineUp 43 = .ok (.invokestatic 47, 3) := by decide +kernel
theorem dX7_lineUp_46 : decode cX7_lineUp 46 = .ok (.ifCond .ne 27, 3) := by decide +kernel
theorem dX7_lineUp_49 : decode cX7_lineUp 49 = .ok (.aload_n 0, 1) := by decide +kernel
theorem dX7_lineUp_50 : decode cX7_lineUp 50 = .ok (.getfield 32, 3) := by decide +kernel
theorem dX7_lineUp_53 : decode cX7_lineUp 53 = .ok (.iload 7, 2) := by decide +kernel
theorem dX7_lineUp_55 : decode cX7_lineUp 55 = .ok (.iaload, 1) := by decide +kernel
theorem dX7_lineUp_56 : decode cX7_lineUp 56 = .ok (.iload 4, 2) := by decide +kernel
theorem dX7_lineUp_58 : decode cX7_lineUp 58 = .ok (.iand, 1) := by decide +kernel
theorem dX7_lineUp_59 : decode cX7_lineUp 59 = .ok (.aload_n 0, 1) := by decide +kernel
theorem dX7_lineUp_60 : decode cX7_lineUp 60 = .ok (.getfield 32, 3) := by decide +kernel
theorem dX7_lineUp_63 : decode cX7_lineUp 63 = .ok (.iload 7, 2) := by decide +kernel
theorem dX7_lineUp_65 : decode cX7_lineUp 65 = .ok (.iaload, 1) := by decide +kernel
theorem dX7_lineUp_66 : decode cX7_lineUp 66 = .ok (.if_icmp .ne 7, 3) := by decide +kernel
theorem dX7_lineUp_69 : decode cX7_lineUp 69 = .ok (.iconst 1, 1) := by decide +kernel
theorem dX7_lineUp_70 : decode cX7_lineUp 70 = .ok (.goto 4, 3) := by decide +kernel
theorem dX7_lineUp_73 : decode cX7_lineUp 73 = .ok (.iconst 0, 1) := by decide +kernel
theorem dX7_lineUp_74 : decode cX7_lineUp 74 = .ok (.istore 9, 2) := by decide +kernel
theorem dX7_lineUp_76 : decode cX7_lineUp 76 = .ok (.iload 9, 2) := by decide +kernel
theorem dX7_lineUp_78 : decode cX7_lineUp 78 = .ok (.ifCond .eq 18, 3) := by decide +kernel
theorem dX7_lineUp_81 : decode cX7_lineUp 81 = .ok (.aload_n 0, 1) := by decide +kernel
theorem dX7_lineUp_82 : decode cX7_lineUp 82 = .ok (.getfield 23, 3) := by decide +kernel
theorem dX7_lineUp_85 : decode cX7_lineUp 85 = .ok (.iload 4, 2) := by decide +kernel
theorem dX7_lineUp_87 : decode cX7_lineUp 87 = .ok (.iconst 1, 1) := by decide +kernel
theorem dX7_lineUp_88 : decode cX7_lineUp 88 = .ok (.iload 7, 2) := by decide +kernel
theorem dX7_lineUp_90 : decode cX7_lineUp 90 = .ok (.ishl, 1) := by decide +kernel
theorem dX7_lineUp_91 : decode cX7_lineUp 91 = .ok (.iadd, 1) := by decide +kernel
theorem dX7_lineUp_92 : decode cX7_lineUp 92 = .ok (.iaload, 1) := by decide +kernel
theorem dX7_lineUp_93 : decode cX7_lineUp 93 = .ok (.goto 4, 3) := by decide +kernel
theorem dX7_lineUp_96 : decode cX7_lineUp 96 = .ok (.iconst 0, 1) := by decide +kernel
theorem dX7_lineUp_97 : decode cX7_lineUp 97 = .ok (.istore 10, 2) := by decide +kernel
theorem dX7_lineUp_99 : decode cX7_lineUp 99 = .ok (.iload_n 3, 1) := by decide +kernel
theorem dX7_lineUp_100 : decode cX7_lineUp 100 = .ok (.iload 10, 2) := by decide +kernel
theorem dX7_lineUp_102 : decode cX7_lineUp 102 = .ok (.if_icmp .ge 7, 3) := by decide +kernel
theorem dX7_lineUp_105 : decode cX7_lineUp 105 = .ok (.iconst 1, 1) := by decide +kernel
theorem dX7_lineUp_106 : decode cX7_lineUp 106 = .ok (.goto 4, 3) := by decide +kernel
theorem dX7_lineUp_109 : decode cX7_lineUp 109 = .ok (.iconst 0, 1) := by decide +kernel
theorem dX7_lineUp_110 : decode cX7_lineUp 110 = .ok (.istore 8, 2) := by decide +kernel
theorem dX7_lineUp_112 : decode cX7_lineUp 112 = .ok (.iload_n 3, 1) := by decide +kernel
theorem dX7_lineUp_113 : decode cX7_lineUp 113 = .ok (.iload 8, 2) := by decide +kernel
theorem dX7_lineUp_115 : decode cX7_lineUp 115 = .ok (.ifCond .eq 7, 3) := by decide +kernel
theorem dX7_lineUp_118 : decode cX7_lineUp 118 = .ok (.iconst 0, 1) := by decide +kernel
theorem dX7_lineUp_119 : decode cX7_lineUp 119 = .ok (.goto 5, 3) := by decide +kernel
theorem dX7_lineUp_122 : decode cX7_lineUp 122 = .ok (.iload 10, 2) := by decide +kernel
theorem dX7_lineUp_124 : decode cX7_lineUp 124 = .ok (.isub, 1) := by decide +kernel
theorem dX7_lineUp_125 : decode cX7_lineUp 125 = .ok (.istore_n 3, 1) := by decide +kernel
theorem dX7_lineUp_126 : decode cX7_lineUp 126 = .ok (.iload 7, 2) := by decide +kernel
theorem dX7_lineUp_128 : decode cX7_lineUp 128 = .ok (.iload 8, 2) := by decide +kernel
theorem dX7_lineUp_130 : decode cX7_lineUp 130 = .ok (.ifCond .eq 7, 3) := by decide +kernel
theorem dX7_lineUp_133 : decode cX7_lineUp 133 = .ok (.iconst 0, 1) := by decide +kernel
theorem dX7_lineUp_134 : decode cX7_lineUp 134 = .ok (.goto 4, 3) := by decide +kernel
theorem dX7_lineUp_137 : decode cX7_lineUp 137 = .ok (.iconst 1, 1) := by decide +kernel
theorem dX7_lineUp_138 : decode cX7_lineUp 138 = .ok (.iadd, 1) := by decide +kernel
theorem dX7_lineUp_139 : decode cX7_lineUp 139 = .ok (.istore 7, 2) := by decide +kernel
theorem dX7_lineUp_141 : decode cX7_lineUp 141 = .ok (.goto (-107), 3) := by decide +kernel
theorem dX7_lineUp_144 : decode cX7_lineUp 144 = .ok (.aload_n 0, 1) := by decide +kernel
theorem dX7_lineUp_145 : decode cX7_lineUp 145 = .ok (.getfield 29, 3) := by decide +kernel
theorem dX7_lineUp_148 : decode cX7_lineUp 148 = .ok (.iload 6, 2) := by decide +kernel
theorem dX7_lineUp_150 : decode cX7_lineUp 150 = .ok (.iload 7, 2) := by decide +kernel
theorem dX7_lineUp_152 : decode cX7_lineUp 152 = .ok (.iastore, 1) := by decide +kernel
theorem dX7_lineUp_153 : decode cX7_lineUp 153 = .ok (.iload 4, 2) := by decide +kernel
theorem dX7_lineUp_155 : decode cX7_lineUp 155 = .ok (.iconst 1, 1) := by decide +kernel
theorem dX7_lineUp_156 : decode cX7_lineUp 156 = .ok (.iload 7, 2) := by decide +kernel
theorem dX7_lineUp_158 : decode cX7_lineUp 158 = .ok (.ishl, 1) := by decide +kernel
theorem dX7_lineUp_159 : decode cX7_lineUp 159 = .ok (.iadd, 1) := by decide +kernel
theorem dX7_lineUp_160 : decode cX7_lineUp 160 = .ok (.istore 4, 2) := by decide +kernel
theorem dX7_lineUp_162 : decode cX7_lineUp 162 = .ok (.bipush 10, 2) := by decide +kernel
theorem dX7_lineUp_164 : decode cX7_lineUp 164 = .ok (.iload 5, 2) := by decide +kernel
theorem dX7_lineUp_166 : decode cX7_lineUp 166 = .ok (.imul, 1) := by decide +kernel
theorem dX7_lineUp_167 : decode cX7_lineUp 167 = .ok (.iload 7, 2) := by decide +kernel
theorem dX7_lineUp_169 : decode cX7_lineUp 169 = .ok (.iadd, 1) := by decide +kernel
theorem dX7_lineUp_170 : decode cX7_lineUp 170 = .ok (.iconst 1, 1) := by decide +kernel
theorem dX7_lineUp_171 : decode cX7_lineUp 171 = .ok (.iadd, 1) := by decide +kernel
theorem dX7_lineUp_172 : decode cX7_lineUp 172 = .ok (.istore 5, 2) := by decide +kernel
theorem dX7_lineUp_174 : decode cX7_lineUp 174 = .ok (.iinc 6 1, 3) := by decide +kernel
theorem dX7_lineUp_177 : decode cX7_lineUp 177 = .ok (.goto (-160), 3) := by decide +kernel
theorem dX7_lineUp_180 : decode cX7_lineUp 180 = .ok (.iload 5, 2) := by decide +kernel
theorem dX7_lineUp_182 : decode cX7_lineUp 182 = .ok (.ireturn, 1) := by decide +kernel
theorem dX7_straighten_0 : decode cX7_straighten 0 = .ok (.aload_n 0, 1) := by decide +kernel
theorem dX7_straighten_1 : decode cX7_straighten 1 = .ok (.iload_n 1, 1) := by decide +kernel
theorem dX7_straighten_2 : decode cX7_straighten 2 = .ok (.invokestatic 43, 3) := by decide +kernel
theorem dX7_straighten_5 : decode cX7_straighten 5 = .ok (.ifCond .eq 20, 3) := by decide +kernel
theorem dX7_straighten_8 : decode cX7_straighten 8 = .ok (.iload_n 2, 1) := by decide +kernel
theorem dX7_straighten_9 : decode cX7_straighten 9 = .ok (.ifCond .lt 16, 3) := by decide +kernel
theorem dX7_straighten_12 : decode cX7_straighten 12 = .ok (.iload_n 2, 1) := by decide +kernel
theorem dX7_straighten_13 : decode cX7_straighten 13 = .ok (.aload_n 0, 1) := by decide +kernel
theorem dX7_straighten_14 : decode cX7_straighten 14 = .ok (.iload_n 1, 1) := by decide +kernel
theorem dX7_straighten_15 : decode cX7_straighten 15 = .ok (.invokevirtual 81, 3) := by decide +kernel
theorem dX7_straighten_18 : decode cX7_straighten 18 = .ok (.if_icmp .ge 7, 3) := by decide +kernel
theorem dX7_straighten_21 : decode cX7_straighten 21 = .ok (.iconst 1, 1) := by decide +kernel
theorem dX7_straighten_22 : decode cX7_straighten 22 = .ok (.goto 4, 3) := by decide +kernel
theorem dX7_straighten_25 : decode cX7_straighten 25 = .ok (.iconst 0, 1) := by decide +kernel
theorem dX7_straighten_26 : decode cX7_straighten 26 = .ok (.iconst 1, 1) := by decide +kernel
theorem dX7_straighten_27 : decode cX7_straighten 27 = .ok (.invokevirtual 51, 3) := by decide +kernel
theorem dX7_straighten_30 : decode cX7_straighten 30 = .ok (.ifCond .ne 5, 3) := by decide +kernel
theorem dX7_straighten_33 : decode cX7_straighten 33 = .ok (.iconst 0, 1) := by decide +kernel
theorem dX7_straighten_34 : decode cX7_straighten 34 = .ok (.ireturn, 1) := by decide +kernel
theorem dX7_straighten_35 : decode cX7_straighten 35 = .ok (.aload_n 0, 1) := by decide +kernel
theorem dX7_straighten_36 : decode cX7_straighten 36 = .ok (.iload_n 1, 1) := by decide +kernel
theorem dX7_straighten_37 : decode cX7_straighten 37 = .ok (.invokevirtual 59, 3) := by decide +kernel
theorem dX7_straighten_40 : decode cX7_straighten 40 = .ok (.istore_n 3, 1) := by decide +kernel
theorem dX7_straighten_41 : decode cX7_straighten 41 = .ok (.aload_n 0, 1) := by decide +kernel
theorem dX7_straighten_42 : decode cX7_straighten 42 = .ok (.iload_n 1, 1) := by decide +kernel
theorem dX7_straighten_43 : decode cX7_straighten 43 = .ok (.iload_n 2, 1) := by decide +kernel
theorem dX7_straighten_44 : decode cX7_straighten 44 = .ok (.invokevirtual 84, 3) := by decide +kernel
theorem dX7_straighten_47 : decode cX7_straighten 47 = .ok (.pop, 1) := by decide +kernel
theorem dX7_straighten_48 : decode cX7_straighten 48 = .ok (.iconst 0, 1) := by decide +kernel
theorem dX7_straighten_49 : decode cX7_straighten 49 = .ok (.istore 4, 2) := by decide +kernel
theorem dX7_straighten_51 : decode cX7_straighten 51 = .ok (.iload 4, 2) := by decide +kernel
theorem dX7_straighten_53 : decode cX7_straighten 53 = .ok (.aload_n 0, 1) := by decide +kernel
theorem dX7_straighten_54 : decode cX7_straighten 54 = .ok (.getfield 9, 3) := by decide +kernel
theorem dX7_straighten_57 : decode cX7_straighten 57 = .ok (.iload_n 1, 1) := by decide +kernel
theorem dX7_straighten_58 : decode cX7_straighten 58 = .ok (.iaload, 1) := by decide +kernel
theorem dX7_straighten_59 : decode cX7_straighten 59 = .ok (.if_icmp .ge 55, 3) := by decide +kernel
theorem dX7_straighten_62 : decode cX7_straighten 62 = .ok (.iload 4, 2) := by decide +kernel
theorem dX7_straighten_64 : decode cX7_straighten 64 = .ok (.iconst 1, 1) := by decide +kernel
theorem dX7_straighten_65 : decode cX7_straighten 65 = .ok (.iadd, 1) := by decide +kernel
theorem dX7_straighten_66 : decode cX7_straighten 66 = .ok (.istore 5, 2) := by decide +kernel
theorem dX7_straighten_68 : decode cX7_straighten 68 = .ok (.iload 5, 2) := by decide +kernel
theorem dX7_straighten_70 : decode cX7_straighten 70 = .ok (.aload_n 0, 1) := by decide +kernel
theorem dX7_straighten_71 : decode cX7_straighten 71 = .ok (.getfield 9, 3) := by decide +kernel
theorem dX7_straighten_74 : decode cX7_straighten 74 = .ok (.iload_n 1, 1) := by decide +kernel
theorem dX7_straighten_75 : decode cX7_straighten 75 = .ok (.iaload, 1) := by decide +kernel
theorem dX7_straighten_76 : decode cX7_straighten 76 = .ok (.if_icmp .ge 32, 3) := by decide +kernel
theorem dX7_straighten_79 : decode cX7_straighten 79 = .ok (.aload_n 0, 1) := by decide +kernel
theorem dX7_straighten_80 : decode cX7_straighten 80 = .ok (.getfield 20, 3) := by decide +kernel
theorem dX7_straighten_83 : decode cX7_straighten 83 = .ok (.iload_n 1, 1) := by decide +kernel
theorem dX7_straighten_84 : decode cX7_straighten 84 = .ok (.aaload, 1) := by decide +kernel
theorem dX7_straighten_85 : decode cX7_straighten 85 = .ok (.aload_n 0, 1) := by decide +kernel
theorem dX7_straighten_86 : decode cX7_straighten 86 = .ok (.getfield 29, 3) := by decide +kernel
theorem dX7_straighten_89 : decode cX7_straighten 89 = .ok (.iload 4, 2) := by decide +kernel
theorem dX7_straighten_91 : decode cX7_straighten 91 = .ok (.iaload, 1) := by decide +kernel
theorem dX7_straighten_92 : decode cX7_straighten 92 = .ok (.aaload, 1) := by decide +kernel
theorem dX7_straighten_93 : decode cX7_straighten 93 = .ok (.aload_n 0, 1) := by decide +kernel
theorem dX7_straighten_94 : decode cX7_straighten 94 = .ok (.getfield 29, 3) := by decide +kernel
theorem dX7_straighten_97 : decode cX7_straighten 97 = .ok (.iload 5, 2) := by decide +kernel
theorem dX7_straighten_99 : decode cX7_straighten 99 = .ok (.iaload, 1) := by decide +kernel
theorem dX7_straighten_100 : decode cX7_straighten 100 = .ok (.iconst 1, 1) := by decide +kernel
theorem dX7_straighten_101 : decode cX7_straighten 101 = .ok (.bastore, 1) := by decide +kernel
theorem dX7_straighten_102 : decode cX7_straighten 102 = .ok (.iinc 5 1, 3) := by decide +kernel
theorem dX7_straighten_105 : decode cX7_straighten 105 = .ok (.goto (-37), 3) := by decide +kernel
theorem dX7_straighten_108 : decode cX7_straighten 108 = .ok (.iinc 4 1, 3) := by decide +kernel
theorem dX7_straighten_111 : decode cX7_straighten 111 = .ok (.goto (-60), 3) := by decide +kernel
theorem dX7_straighten_114 : decode cX7_straighten 114 = .ok (.aload_n 0, 1) := by decide +kernel
theorem dX7_straighten_115 : decode cX7_straighten 115 = .ok (.iload_n 1, 1) := by decide +kernel
theorem dX7_straighten_116 : decode cX7_straighten 116 = .ok (.invokevirtual 59, 3) := by decide +kernel
theorem dX7_straighten_119 : decode cX7_straighten 119 = .ok (.iload_n 3, 1) := by decide +kernel
theorem dX7_straighten_120 : decode cX7_straighten 120 = .ok (.isub, 1) := by decide +kernel
theorem dX7_straighten_121 : decode cX7_straighten 121 = .ok (.ireturn, 1) := by decide +kernel
theorem dX7_turn_0 : decode cX7_turn 0 = .ok (.aload_n 0, 1) := by decide +kernel
theorem dX7_turn_1 : decode cX7_turn 1 = .ok (.iload_n 1, 1) := by decide +kernel
theorem dX7_turn_2 : decode cX7_turn 2 = .ok (.invokestatic 43, 3) := by decide +kernel
theorem dX7_turn_5 : decode cX7_turn 5 = .ok (.iconst 1, 1) := by decide +kernel
theorem dX7_turn_6 : decode cX7_turn 6 = .ok (.invokevirtual 51, 3) := by decide +kernel
theorem dX7_turn_9 : decode cX7_turn 9 = .ok (.ifCond .ne 5, 3) := by decide +kernel
theorem dX7_turn_12 : decode cX7_turn 12 = .ok (.iconst 0, 1) := by decide +kernel
theorem dX7_turn_13 : decode cX7_turn 13 = .ok (.ireturn, 1) := by decide +kernel
theorem dX7_turn_14 : decode cX7_turn 14 = .ok (.iconst 0, 1) := by decide +kernel
theorem dX7_turn_15 : decode cX7_turn 15 = .ok (.istore_n 2, 1) := by decide +kernel
theorem dX7_turn_16 : decode cX7_turn 16 = .ok (.iload_n 2, 1) := by decide +kernel
theorem dX7_turn_17 : decode cX7_turn 17 = .ok (.aload_n 0, 1) := by decide +kernel
theorem dX7_turn_18 : decode cX7_turn 18 = .ok (.getfield 9, 3) := by decide +kernel
theorem dX7_turn_21 : decode cX7_turn 21 = .ok (.iload_n 1, 1) := by decide +kernel
theorem dX7_turn_22 : decode cX7_turn 22 = .ok (.iaload, 1) := by decide +kernel
theorem dX7_turn_23 : decode cX7_turn 23 = .ok (.if_icmp .ge 73, 3) := by decide +kernel
theorem dX7_turn_26 : decode cX7_turn 26 = .ok (.iload_n 2, 1) := by decide +kernel
theorem dX7_turn_27 : decode cX7_turn 27 = .ok (.iconst 1, 1) := by decide +kernel
theorem dX7_turn_28 : decode cX7_turn 28 = .ok (.iadd, 1) := by decide +kernel
theorem dX7_turn_29 : decode cX7_turn 29 = .ok (.istore_n 3, 1) := by decide +kernel
theorem dX7_turn_30 : decode cX7_turn 30 = .ok (.iload_n 3, 1) := by decide +kernel
theorem dX7_turn_31 : decode cX7_turn 31 = .ok (.aload_n 0, 1) := by decide +kernel
theorem dX7_turn_32 : decode cX7_turn 32 = .ok (.getfield 9, 3) := by decide +kernel
theorem dX7_turn_35 : decode cX7_turn 35 = .ok (.iload_n 1, 1) := by decide +kernel
theorem dX7_turn_36 : decode cX7_turn 36 = .ok (.iaload, 1) := by decide +kernel
theorem dX7_turn_37 : decode cX7_turn 37 = .ok (.if_icmp .ge 53, 3) := by decide +kernel
theorem dX7_turn_40 : decode cX7_turn 40 = .ok (.aload_n 0, 1) := by decide +kernel
theorem dX7_turn_41 : decode cX7_turn 41 = .ok (.getfield 20, 3) := by decide +kernel
theorem dX7_turn_44 : decode cX7_turn 44 = .ok (.iload_n 1, 1) := by decide +kernel
theorem dX7_turn_45 : decode cX7_turn 45 = .ok (.aaload, 1) := by decide +kernel
theorem dX7_turn_46 : decode cX7_turn 46 = .ok (.iload_n 2, 1) := by decide +kernel
theorem dX7_turn_47 : decode cX7_turn 47 = .ok (.aaload, 1) := by decide +kernel
theorem dX7_turn_48 : decode cX7_turn 48 = .ok (.iload_n 3, 1) := by decide +kernel
theorem dX7_turn_49 : decode cX7_turn 49 = .ok (.baload, 1) := by decide +kernel
theorem dX7_turn_50 : decode cX7_turn 50 = .ok (.istore 4, 2) := by decide +kernel
theorem dX7_turn_52 : decode cX7_turn 52 = .ok (.aload_n 0, 1) := by decide +kernel
theorem dX7_turn_53 : decode cX7_turn 53 = .ok (.getfield 20, 3) := by decide +kernel
theorem dX7_turn_56 : decode cX7_turn 56 = .ok (.iload_n 1, 1) := by decide +kernel
theorem dX7_turn_57 : decode cX7_turn 57 = .ok (.aaload, 1) := by decide +kernel
theorem dX7_turn_58 : decode cX7_turn 58 = .ok (.iload_n 2, 1) := by decide +kernel
theorem dX7_turn_59 : decode cX7_turn 59 = .ok (.aaload, 1) := by decide +kernel
theorem dX7_turn_60 : decode cX7_turn 60 = .ok (.iload_n 3, 1) := by decide +kernel
theorem dX7_turn_61 : decode cX7_turn 61 = .ok (.aload_n 0, 1) := by decide +kernel
theorem dX7_turn_62 : decode cX7_turn 62 = .ok (.getfield 20, 3) := by decide +kernel
theorem dX7_turn_65 : decode cX7_turn 65 = .ok (.iload_n 1, 1) := by decide +kernel
theorem dX7_turn_66 : decode cX7_turn 66 = .ok (.aaload, 1) := by decide +kernel
theorem dX7_turn_67 : decode cX7_turn 67 = .ok (.iload_n 3, 1) := by decide +kernel
theorem dX7_turn_68 : decode cX7_turn 68 = .ok (.aaload, 1) := by decide +kernel
theorem dX7_turn_69 : decode cX7_turn 69 = .ok (.iload_n 2, 1) := by decide +kernel
theorem dX7_turn_70 : decode cX7_turn 70 = .ok (.baload, 1) := by decide +kernel
theorem dX7_turn_71 : decode cX7_turn 71 = .ok (.bastore, 1) := by decide +kernel
theorem dX7_turn_72 : decode cX7_turn 72 = .ok (.aload_n 0, 1) := by decide +kernel
theorem dX7_turn_73 : decode cX7_turn 73 = .ok (.getfield 20, 3) := by decide +kernel
theorem dX7_turn_76 : decode cX7_turn 76 = .ok (.iload_n 1, 1) := by decide +kernel
theorem dX7_turn_77 : decode cX7_turn 77 = .ok (.aaload, 1) := by decide +kernel
theorem dX7_turn_78 : decode cX7_turn 78 = .ok (.iload_n 3, 1) := by decide +kernel
theorem dX7_turn_79 : decode cX7_turn 79 = .ok (.aaload, 1) := by decide +kernel
theorem dX7_turn_80 : decode cX7_turn 80 = .ok (.iload_n 2, 1) := by decide +kernel
theorem dX7_turn_81 : decode cX7_turn 81 = .ok (.iload 4, 2) := by decide +kernel
theorem dX7_turn_83 : decode cX7_turn 83 = .ok (.bastore, 1) := by decide +kernel
theorem dX7_turn_84 : decode cX7_turn 84 = .ok (.iinc 3 1, 3) := by decide +kernel
theorem dX7_turn_87 : decode cX7_turn 87 = .ok (.goto (-57), 3) := by decide +kernel
theorem dX7_turn_90 : decode cX7_turn 90 = .ok (.iinc 2 1, 3) := by decide +kernel
theorem dX7_turn_93 : decode cX7_turn 93 = .ok (.goto (-77), 3) := by decide +kernel
theorem dX7_turn_96 : decode cX7_turn 96 = .ok (.aload_n 0, 1) := by decide +kernel
theorem dX7_turn_97 : decode cX7_turn 97 = .ok (.iload_n 1, 1) := by decide +kernel
theorem dX7_turn_98 : decode cX7_turn 98 = .ok (.invokevirtual 59, 3) := by decide +kernel
theorem dX7_turn_101 : decode cX7_turn 101 = .ok (.ireturn, 1) := by decide +kernel
theorem dX7_copy_0 : decode cX7_copy 0 = .ok (.aload_n 0, 1) := by decide +kernel
theorem dX7_copy_1 : decode cX7_copy 1 = .ok (.iload_n 1, 1) := by decide +kernel
theorem dX7_copy_2 : decode cX7_copy 2 = .ok (.invokestatic 43, 3) := by decide +kernel
theorem dX7_copy_5 : decode cX7_copy 5 = .ok (.ifCond .eq 14, 3) := by decide +kernel
theorem dX7_copy_8 : decode cX7_copy 8 = .ok (.iload_n 2, 1) := by decide +kernel
theorem dX7_copy_9 : decode cX7_copy 9 = .ok (.invokestatic 43, 3) := by decide +kernel
theorem dX7_copy_12 : decode cX7_copy 12 = .ok (.ifCond .eq 7, 3) := by decide +kernel
theorem dX7_copy_15 : decode cX7_copy 15 = .ok (.iconst 1, 1) := by decide +kernel
theorem dX7_copy_16 : decode cX7_copy 16 = .ok (.goto 4, 3) := by decide +kernel
theorem dX7_copy_19 : decode cX7_copy 19 = .ok (.iconst 0, 1) := by decide +kernel
theorem dX7_copy_20 : decode cX7_copy 20 = .ok (.iconst 1, 1) := by decide +kernel
theorem dX7_copy_21 : decode cX7_copy 21 = .ok (.invokevirtual 51, 3) := by decide +kernel
theorem dX7_copy_24 : decode cX7_copy 24 = .ok (.ifCond .ne 5, 3) := by decide +kernel
theorem dX7_copy_27 : decode cX7_copy 27 = .ok (.iconst 0, 1) := by decide +kernel
theorem dX7_copy_28 : decode cX7_copy 28 = .ok (.ireturn, 1) := by decide +kernel
theorem dX7_copy_29 : decode cX7_copy 29 = .ok (.aload_n 0, 1) := by decide +kernel
theorem dX7_copy_30 : decode cX7_copy 30 = .ok (.iload_n 2, 1) := by decide +kernel
theorem dX7_copy_31 : decode cX7_copy 31 = .ok (.iload_n 1, 1) := by decide +kernel
theorem dX7_copy_32 : decode cX7_copy 32 = .ok (.invokevirtual 63, 3) := by decide +kernel
theorem dX7_copy_35 : decode cX7_copy 35 = .ok (.aload_n 0, 1) := by decide +kernel
theorem dX7_copy_36 : decode cX7_copy 36 = .ok (.getfield 9, 3) := by decide +kernel
theorem dX7_copy_39 : decode cX7_copy 39 = .ok (.iload_n 2, 1) := by decide +kernel
theorem dX7_copy_40 : decode cX7_copy 40 = .ok (.iaload, 1) := by decide +kernel
theorem dX7_copy_41 : decode cX7_copy 41 = .ok (.ireturn, 1) := by decide +kernel
theorem dX7_joins_0 : decode cX7_joins 0 = .ok (.aload_n 0, 1) := by decide +kernel
theorem dX7_joins_1 : decode cX7_joins 1 = .ok (.getfield 9, 3) := by decide +kernel
theorem dX7_joins_4 : decode cX7_joins 4 = .ok (.iload_n 1, 1) := by decide +kernel
theorem dX7_joins_5 : decode cX7_joins 5 = .ok (.iaload, 1) := by decide +kernel
theorem dX7_joins_6 : decode cX7_joins 6 = .ok (.istore 4, 2) := by decide +kernel
theorem dX7_joins_8 : decode cX7_joins 8 = .ok (.aload_n 0, 1) := by decide +kernel
theorem dX7_joins_9 : decode cX7_joins 9 = .ok (.getfield 9, 3) := by decide +kernel
theorem dX7_joins_12 : decode cX7_joins 12 = .ok (.iload_n 2, 1) := by decide +kernel
theorem dX7_joins_13 : decode cX7_joins 13 = .ok (.iaload, 1) := by decide +kernel
theorem dX7_joins_14 : decode cX7_joins 14 = .ok (.istore 5, 2) := by decide +kernel
theorem dX7_joins_16 : decode cX7_joins 16 = .ok (.aload_n 0, 1) := by decide +kernel
theorem dX7_joins_17 : decode cX7_joins 17 = .ok (.iconst 4, 1) := by decide +kernel
theorem dX7_joins_18 : decode cX7_joins 18 = .ok (.iload 4, 2) := by decide +kernel
theorem dX7_joins_20 : decode cX7_joins 20 = .ok (.iload 5, 2) := by decide +kernel
theorem dX7_joins_22 : decode cX7_joins 22 = .ok (.iadd, 1) := by decide +kernel
theorem dX7_joins_23 : decode cX7_joins 23 = .ok (.invokevirtual 55, 3) := by decide +kernel
theorem dX7_joins_26 : decode cX7_joins 26 = .ok (.iconst 0, 1) := by decide +kernel
theorem dX7_joins_27 : decode cX7_joins 27 = .ok (.istore 6, 2) := by decide +kernel
theorem dX7_joins_29 : decode cX7_joins 29 = .ok (.iload 6, 2) := by decide +kernel
theorem dX7_joins_31 : decode cX7_joins 31 = .ok (.iload 4, 2) := by decide +kernel
theorem dX7_joins_33 : decode cX7_joins 33 = .ok (.iload 5, 2) := by decide +kernel
theorem dX7_joins_35 : decode cX7_joins 35 = .ok (.iadd, 1) := by decide +kernel
theorem dX7_joins_36 : decode cX7_joins 36 = .ok (.if_icmp .ge 178, 3) := by decide +kernel
theorem dX7_joins_39 : decode cX7_joins 39 = .ok (.aload_n 0, 1) := by decide +kernel
theorem dX7_joins_40 : decode cX7_joins 40 = .ok (.getfield 15, 3) := by decide +kernel
theorem dX7_joins_43 : decode cX7_joins 43 = .ok (.iconst 4, 1) := by decide +kernel
theorem dX7_joins_44 : decode cX7_joins 44 = .ok (.aaload, 1) := by decide +kernel
theorem dX7_joins_45 : decode cX7_joins 45 = .ok (.iload 6, 2) := by decide +kernel
theorem dX7_joins_47 : decode cX7_joins 47 = .ok (.iload 6, 2) := by decide +kernel
theorem dX7_joins_49 : decode cX7_joins 49 = .ok (.iload 4, 2) := by decide +kernel
theorem dX7_joins_51 : decode cX7_joins 51 = .ok (.if_icmp .ge 15, 3) := by decide +kernel
theorem dX7_joins_54 : decode cX7_joins 54 = .ok (.aload_n 0, 1) := by decide +kernel
theorem dX7_joins_55 : decode cX7_joins 55 = .ok (.getfield 15, 3) := by decide +kernel
theorem dX7_joins_58 : decode cX7_joins 58 = .ok (.iload_n 1, 1) := by decide +kernel
theorem dX7_joins_59 : decode cX7_joins 59 = .ok (.aaload, 1) := by decide +kernel
theorem dX7_joins_60 : decode cX7_joins 60 = .ok (.iload 6, 2) := by decide +kernel
theorem dX7_joins_62 : decode cX7_joins 62 = .ok (.iaload, 1) := by decide +kernel
theorem dX7_joins_63 : decode cX7_joins 63 = .ok (.goto 15, 3) := by decide +kernel
theorem dX7_joins_66 : decode cX7_joins 66 = .ok (.aload_n 0, 1) := by decide +kernel
theorem dX7_joins_67 : decode cX7_joins 67 = .ok (.getfield 15, 3) := by decide +kernel
theorem dX7_joins_70 : decode cX7_joins 70 = .ok (.iload_n 2, 1) := by decide +kernel
theorem dX7_joins_71 : decode cX7_joins 71 = .ok (.aaload, 1) := by decide +kernel
theorem dX7_joins_72 : decode cX7_joins 72 = .ok (.iload 6, 2) := by decide +kernel
theorem dX7_joins_74 : decode cX7_joins 74 = .ok (.iload 4, 2) := by decide +kernel
theorem dX7_joins_76 : decode cX7_joins 76 = .ok (.isub, 1) := by decide +kernel
theorem dX7_joins_77 : decode cX7_joins 77 = .ok (.iaload, 1) := by decide +kernel
theorem dX7_joins_78 : decode cX7_joins 78 = .ok (.iastore, 1) := by decide +kernel
theorem dX7_joins_79 : decode cX7_joins 79 = .ok (.iconst 0, 1) := by decide +kernel
theorem dX7_joins_80 : decode cX7_joins 80 = .ok (.istore 7, 2) := by decide +kernel
theorem dX7_joins_82 : decode cX7_joins 82 = .ok (.iload 7, 2) := by decide +kernel
theorem dX7_joins_84 : decode cX7_joins 84 = .ok (.iload 4, 2) := by decide +kernel
theorem dX7_joins_86 : decode cX7_joins 86 = .ok (.iload 5, 2) := by decide +kernel
theorem dX7_joins_88 : decode cX7_joins 88 = .ok (.iadd, 1) := by decide +kernel
theorem dX7_joins_89 : decode cX7_joins 89 = .ok (.if_icmp .ge 119, 3) := by decide +kernel
theorem dX7_joins_92 : decode cX7_joins 92 = .ok (.iload 6, 2) := by decide +kernel
theorem dX7_joins_94 : decode cX7_joins 94 = .ok (.iload 4, 2) := by decide +kernel
theorem dX7_joins_96 : decode cX7_joins 96 = .ok (.if_icmp .ge 7, 3) := by decide +kernel
theorem dX7_joins_99 : decode cX7_joins 99 = .ok (.iconst 1, 1) := by decide +kernel
theorem dX7_joins_100 : decode cX7_joins 100 = .ok (.goto 4, 3) := by decide +kernel
theorem dX7_joins_103 : decode cX7_joins 103 = .ok (.iconst 0, 1) := by decide +kernel
theorem dX7_joins_104 : decode cX7_joins 104 = .ok (.iload 7, 2) := by decide +kernel
theorem dX7_joins_106 : decode cX7_joins 106 = .ok (.iload 4, 2) := by decide +kernel
theorem dX7_joins_108 : decode cX7_joins 108 = .ok (.if_icmp .ge 7, 3) := by decide +kernel
theorem dX7_joins_111 : decode cX7_joins 111 = .ok (.iconst 1, 1) := by decide +kernel
theorem dX7_joins_112 : decode cX7_joins 112 = .ok (.goto 4, 3) := by decide +kernel
theorem dX7_joins_115 : decode cX7_joins 115 = .ok (.iconst 0, 1) := by decide +kernel
theorem dX7_joins_116 : decode cX7_joins 116 = .ok (.if_icmp .ne 7, 3) := by decide +kernel
theorem dX7_joins_119 : decode cX7_joins 119 = .ok (.iconst 1, 1) := by decide +kernel
theorem dX7_joins_120 : decode cX7_joins 120 = .ok (.goto 4, 3) := by decide +kernel
theorem dX7_joins_123 : decode cX7_joins 123 = .ok (.iconst 0, 1) := by decide +kernel
theorem dX7_joins_124 : decode cX7_joins 124 = .ok (.istore 8, 2) := by decide +kernel
theorem dX7_joins_126 : decode cX7_joins 126 = .ok (.aload_n 0, 1) := by decide +kernel
theorem dX7_joins_127 : decode cX7_joins 127 = .ok (.getfield 20, 3) := by decide +kernel
theorem dX7_joins_130 : decode cX7_joins 130 = .ok (.iconst 4, 1) := by decide +kernel
theorem dX7_joins_131 : decode cX7_joins 131 = .ok (.aaload, 1) := by decide +kernel
theorem dX7_joins_132 : decode cX7_joins 132 = .ok (.iload 6, 2) := by decide +kernel
theorem dX7_joins_134 : decode cX7_joins 134 = .ok (.aaload, 1) := by decide +kernel
theorem dX7_joins_135 : decode cX7_joins 135 = .ok (.iload 7, 2) := by decide +kernel
theorem dX7_joins_137 : decode cX7_joins 137 = .ok (.iload 8, 2) := by decide +kernel
theorem dX7_joins_139 : decode cX7_joins 139 = .ok (.ifCond .eq 46, 3) := by decide +kernel
theorem dX7_joins_142 : decode cX7_joins 142 = .ok (.iload 6, 2) := by decide +kernel
theorem dX7_joins_144 : decode cX7_joins 144 = .ok (.iload 4, 2) := by decide +kernel
theorem dX7_joins_146 : decode cX7_joins 146 = .ok (.if_icmp .ge 18, 3) := by decide +kernel
theorem dX7_joins_149 : decode cX7_joins 149 = .ok (.aload_n 0, 1) := by decide +kernel
theorem dX7_joins_150 : decode cX7_joins 150 = .ok (.getfield 20, 3) := by decide +kernel
theorem dX7_joins_153 : decode cX7_joins 153 = .ok (.iload_n 1, 1) := by decide +kernel
theorem dX7_joins_154 : decode cX7_joins 154 = .ok (.aaload, 1) := by decide +kernel
theorem dX7_joins_155 : decode cX7_joins 155 = .ok (.iload 6, 2) := by decide +kernel
theorem dX7_joins_157 : decode cX7_joins 157 = .ok (.aaload, 1) := by decide +kernel
theorem dX7_joins_158 : decode cX7_joins 158 = .ok (.iload 7, 2) := by decide +kernel
theorem dX7_joins_160 : decode cX7_joins 160 = .ok (.baload, 1) := by decide +kernel
theorem dX7_joins_161 : decode cX7_joins 161 = .ok (.goto 40, 3) := by decide +kernel
theorem dX7_joins_164 : decode cX7_joins 164 = .ok (.aload_n 0, 1) := by decide +kernel
theorem dX7_joins_165 : decode cX7_joins 165 = .ok (.getfield 20, 3) := by decide +kernel
theorem dX7_joins_168 : decode cX7_joins 168 = .ok (.iload_n 2, 1) := by decide +kernel
theorem dX7_joins_169 : decode cX7_joins 169 = .ok (.aaload, 1) := by decide +kernel
theorem dX7_joins_170 : decode cX7_joins 170 = .ok (.iload 6, 2) := by decide +kernel
theorem dX7_joins_172 : decode cX7_joins 172 = .ok (.iload 4, 2) := by decide +kernel
theorem dX7_joins_174 : decode cX7_joins 174 = .ok (.isub, 1) := by decide +kernel
theorem dX7_joins_175 : decode cX7_joins 175 = .ok (.aaload, 1) := by decide +kernel
theorem dX7_joins_176 : decode cX7_joins 176 = .ok (.iload 7, 2) := by decide +kernel
theorem dX7_joins_178 : decode cX7_joins 178 = .ok (.iload 4, 2) := by decide +kernel
theorem dX7_joins_180 : decode cX7_joins 180 = .ok (.isub, 1) := by decide +kernel
theorem dX7_joins_181 : decode cX7_joins 181 = .ok (.baload, 1) := by decide +kernel
theorem dX7_joins_182 : decode cX7_joins 182 = .ok (.goto 19, 3) := by decide +kernel
theorem dX7_joins_185 : decode cX7_joins 185 = .ok (.iload_n 3, 1) := by decide +kernel
theorem dX7_joins_186 : decode cX7_joins 186 = .ok (.ifCond .eq 14, 3) := by decide +kernel
theorem dX7_joins_189 : decode cX7_joins 189 = .ok (.iload 6, 2) := by decide +kernel
theorem dX7_joins_191 : decode cX7_joins 191 = .ok (.iload 4, 2) := by decide +kernel
theorem dX7_joins_193 : decode cX7_joins 193 = .ok (.if_icmp .ge 7, 3) := by decide +kernel
theorem dX7_joins_196 : decode cX7_joins 196 = .ok (.iconst 1, 1) := by decide +kernel
theorem dX7_joins_197 : decode cX7_joins 197 = .ok (.goto 4, 3) := by decide +kernel
theorem dX7_joins_200 : decode cX7_joins 200 = .ok (.iconst 0, 1) := by decide +kernel
theorem dX7_joins_201 : decode cX7_joins 201 = .ok (.bastore, 1) := by decide +kernel
theorem dX7_joins_202 : decode cX7_joins 202 = .ok (.iinc 7 1, 3) := by decide +kernel
theorem dX7_joins_205 : decode cX7_joins 205 = .ok (.goto (-123), 3) := by decide +kernel
theorem dX7_joins_208 : decode cX7_joins 208 = .ok (.iinc 6 1, 3) := by decide +kernel
theorem dX7_joins_211 : decode cX7_joins 211 = .ok (.goto (-182), 3) := by decide +kernel
theorem dX7_joins_214 : decode cX7_joins 214 = .ok (.return_, 1) := by decide +kernel
theorem dX7_canJoin_0 : decode cX7_canJoin 0 = .ok (.aload_n 0, 1) := by decide +kernel
theorem dX7_canJoin_1 : decode cX7_canJoin 1 = .ok (.iload_n 1, 1) := by decide +kernel
theorem dX7_canJoin_2 : decode cX7_canJoin 2 = .ok (.invokestatic 43, 3) := by decide +kernel
theorem dX7_canJoin_5 : decode cX7_canJoin 5 = .ok (.ifCond .eq 21, 3) := by decide +kernel
theorem dX7_canJoin_8 : decode cX7_canJoin 8 = .ok (.iload_n 2, 1) := by decide +kernel
theorem dX7_canJoin_9 : decode cX7_canJoin 9 = .ok (.invokestatic 43, 3) := by decide +kernel
theorem dX7_canJoin_12 : decode cX7_canJoin 12 = .ok (.ifCond .eq 14, 3) := by decide +kernel
theorem dX7_canJoin_15 : decode cX7_canJoin 15 = .ok (.iload_n 3, 1) := by decide +kernel
theorem dX7_canJoin_16 : decode cX7_canJoin 16 = .ok (.invokestatic 43, 3) := by decide +kernel
theorem dX7_canJoin_19 : decode cX7_canJoin 19 = .ok (.ifCond .eq 7, 3) := by decide +kernel
theorem dX7_canJoin_22 : decode cX7_canJoin 22 = .ok (.iconst 1, 1) := by decide +kernel
theorem dX7_canJoin_23 : decode cX7_canJoin 23 = .ok (.goto 4, 3) := by decide +kernel
theorem dX7_canJoin_26 : decode cX7_canJoin 26 = .ok (.iconst 0, 1) := by decide +kernel
theorem dX7_canJoin_27 : decode cX7_canJoin 27 = .ok (.iconst 1, 1) := by decide +kernel
theorem dX7_canJoin_28 : decode cX7_canJoin 28 = .ok (.invokevirtual 51, 3) := by decide +kernel
theorem dX7_canJoin_31 : decode cX7_canJoin 31 = .ok (.ifCond .eq 38, 3) := by decide +kernel
theorem dX7_canJoin_34 : decode cX7_canJoin 34 = .ok (.aload_n 0, 1) := by decide +kernel
theorem dX7_canJoin_35 : decode cX7_canJoin 35 = .ok (.aload_n 0, 1) := by decide +kernel
theorem dX7_canJoin_36 : decode cX7_canJoin 36 = .ok (.getfield 9, 3) := by decide +kernel
theorem dX7_canJoin_39 : decode cX7_canJoin 39 = .ok (.iload_n 1, 1) := by decide +kernel
theorem dX7_canJoin_40 : decode cX7_canJoin 40 = .ok (.iaload, 1) := by decide +kernel
theorem dX7_canJoin_41 : decode cX7_canJoin 41 = .ok (.aload_n 0, 1) := by decide +kernel
theorem dX7_canJoin_42 : decode cX7_canJoin 42 = .ok (.getfield 9, 3) := by decide +kernel
theorem dX7_canJoin_45 : decode cX7_canJoin 45 = .ok (.iload_n 2, 1) := by decide +kernel
theorem dX7_canJoin_46 : decode cX7_canJoin 46 = .ok (.iaload, 1) := by decide +kernel
theorem dX7_canJoin_47 : decode cX7_canJoin 47 = .ok (.iadd, 1) := by decide +kernel
theorem dX7_canJoin_48 : decode cX7_canJoin 48 = .ok (.bipush 9, 2) := by decide +kernel
theorem dX7_canJoin_50 : decode cX7_canJoin 50 = .ok (.if_icmp .gt 7, 3) := by decide +kernel
theorem dX7_canJoin_53 : decode cX7_canJoin 53 = .ok (.iconst 1, 1) := by decide +kernel
theorem dX7_canJoin_54 : decode cX7_canJoin 54 = .ok (.goto 4, 3) := by decide +kernel
theorem dX7_canJoin_57 : decode cX7_canJoin 57 = .ok (.iconst 0, 1) := by decide +kernel
theorem dX7_canJoin_58 : decode cX7_canJoin 58 = .ok (.iconst 2, 1) := by decide +kernel
theorem dX7_canJoin_59 : decode cX7_canJoin 59 = .ok (.invokevirtual 51, 3) := by decide +kernel
theorem dX7_canJoin_62 : decode cX7_canJoin 62 = .ok (.ifCond .eq 7, 3) := by decide +kernel
theorem dX7_canJoin_65 : decode cX7_canJoin 65 = .ok (.iconst 1, 1) := by decide +kernel
theorem dX7_canJoin_66 : decode cX7_canJoin 66 = .ok (.goto 4, 3) := by decide +kernel
theorem dX7_canJoin_69 : decode cX7_canJoin 69 = .ok (.iconst 0, 1) := by decide +kernel
theorem dX7_canJoin_70 : decode cX7_canJoin 70 = .ok (.ireturn, 1) := by decide +kernel
theorem dX7_beside_0 : decode cX7_beside 0 = .ok (.aload_n 0, 1) := by decide +kernel
theorem dX7_beside_1 : decode cX7_beside 1 = .ok (.iload_n 1, 1) := by decide +kernel
theorem dX7_beside_2 : decode cX7_beside 2 = .ok (.iload_n 2, 1) := by decide +kernel
theorem dX7_beside_3 : decode cX7_beside 3 = .ok (.iload_n 3, 1) := by decide +kernel
theorem dX7_beside_4 : decode cX7_beside 4 = .ok (.invokevirtual 88, 3) := by decide +kernel
theorem dX7_beside_7 : decode cX7_beside 7 = .ok (.ifCond .ne 5, 3) := by decide +kernel
theorem dX7_beside_10 : decode cX7_beside 10 = .ok (.iconst 0, 1) := by decide +kernel
theorem dX7_beside_11 : decode cX7_beside 11 = .ok (.ireturn, 1) := by decide +kernel
theorem dX7_beside_12 : decode cX7_beside 12 = .ok (.aload_n 0, 1) := by decide +kernel
theorem dX7_beside_13 : decode cX7_beside 13 = .ok (.iload_n 1, 1) := by decide +kernel
theorem dX7_beside_14 : decode cX7_beside 14 = .ok (.iload_n 2, 1) := by decide +kernel
theorem dX7_beside_15 : decode cX7_beside 15 = .ok (.iconst 0, 1) := by decide +kernel
theorem dX7_beside_16 : decode cX7_beside 16 = .ok (.invokevirtual 91, 3) := by decide +kernel
theorem dX7_beside_19 : decode cX7_beside 19 = .ok (.aload_n 0, 1) := by decide +kernel
theorem dX7_beside_20 : decode cX7_beside 20 = .ok (.iload_n 3, 1) := by decide +kernel
theorem dX7_beside_21 : decode cX7_beside 21 = .ok (.iconst 4, 1) := by decide +kernel
theorem dX7_beside_22 : decode cX7_beside 22 = .ok (.invokevirtual 63, 3) := by decide +kernel
theorem dX7_beside_25 : decode cX7_beside 25 = .ok (.aload_n 0, 1) := by decide +kernel
theorem dX7_beside_26 : decode cX7_beside 26 = .ok (.getfield 9, 3) := by decide +kernel
theorem dX7_beside_29 : decode cX7_beside 29 = .ok (.iload_n 3, 1) := by decide +kernel
theorem dX7_beside_30 : decode cX7_beside 30 = .ok (.iaload, 1) := by decide +kernel
theorem dX7_beside_31 : decode cX7_beside 31 = .ok (.ireturn, 1) := by decide +kernel
theorem dX7_above_0 : decode cX7_above 0 = .ok (.aload_n 0, 1) := by decide +kernel
theorem dX7_above_1 : decode cX7_above 1 = .ok (.iload_n 1, 1) := by decide +kernel
theorem dX7_above_2 : decode cX7_above 2 = .ok (.iload_n 2, 1) := by decide +kernel
theorem dX7_above_3 : decode cX7_above 3 = .ok (.iload_n 3, 1) := by decide +kernel
theorem dX7_above_4 : decode cX7_above 4 = .ok (.invokevirtual 88, 3) := by decide +kernel
theorem dX7_above_7 : decode cX7_above 7 = .ok (.ifCond .ne 5, 3) := by decide +kernel
theorem dX7_above_10 : decode cX7_above 10 = .ok (.iconst 0, 1) := by decide +kernel
theorem dX7_above_11 : decode cX7_above 11 = .ok (.ireturn, 1) := by decide +kernel
theorem dX7_above_12 : decode cX7_above 12 = .ok (.aload_n 0, 1) := by decide +kernel
theorem dX7_above_13 : decode cX7_above 13 = .ok (.iload_n 1, 1) := by decide +kernel
theorem dX7_above_14 : decode cX7_above 14 = .ok (.iload_n 2, 1) := by decide +kernel
theorem dX7_above_15 : decode cX7_above 15 = .ok (.iconst 1, 1) := by decide +kernel
theorem dX7_above_16 : decode cX7_above 16 = .ok (.invokevirtual 91, 3) := by decide +kernel
theorem dX7_above_19 : decode cX7_above 19 = .ok (.aload_n 0, 1) := by decide +kernel
theorem dX7_above_20 : decode cX7_above 20 = .ok (.iload_n 3, 1) := by decide +kernel
theorem dX7_above_21 : decode cX7_above 21 = .ok (.iconst 4, 1) := by decide +kernel
theorem dX7_above_22 : decode cX7_above 22 = .ok (.invokevirtual 63, 3) := by decide +kernel
theorem dX7_above_25 : decode cX7_above 25 = .ok (.aload_n 0, 1) := by decide +kernel
theorem dX7_above_26 : decode cX7_above 26 = .ok (.iload_n 3, 1) := by decide +kernel
theorem dX7_above_27 : decode cX7_above 27 = .ok (.invokevirtual 59, 3) := by decide +kernel
theorem dX7_above_30 : decode cX7_above 30 = .ok (.ireturn, 1) := by decide +kernel
theorem dX7_meet_0 : decode cX7_meet 0 = .ok (.aload_n 0, 1) := by decide +kernel
theorem dX7_meet_1 : decode cX7_meet 1 = .ok (.iload_n 1, 1) := by decide +kernel
theorem dX7_meet_2 : decode cX7_meet 2 = .ok (.invokestatic 43, 3) := by decide +kernel
theorem dX7_meet_5 : decode cX7_meet 5 = .ok (.ifCond .eq 21, 3) := by decide +kernel
theorem dX7_meet_8 : decode cX7_meet 8 = .ok (.iload_n 2, 1) := by decide +kernel
theorem dX7_meet_9 : decode cX7_meet 9 = .ok (.invokestatic 43, 3) := by decide +kernel
theorem dX7_meet_12 : decode cX7_meet 12 = .ok (.ifCond .eq 14, 3) := by decide +kernel
theorem dX7_meet_15 : decode cX7_meet 15 = .ok (.iload_n 3, 1) := by decide +kernel
theorem dX7_meet_16 : decode cX7_meet 16 = .ok (.invokestatic 43, 3) := by decide +kernel
theorem dX7_meet_19 : decode cX7_meet 19 = .ok (.ifCond .eq 7, 3) := by decide +kernel
theorem dX7_meet_22 : decode cX7_meet 22 = .ok (.iconst 1, 1) := by decide +kernel
theorem dX7_meet_23 : decode cX7_meet 23 = .ok (.goto 4, 3) := by decide +kernel
theorem dX7_meet_26 : decode cX7_meet 26 = .ok (.iconst 0, 1) := by decide +kernel
theorem dX7_meet_27 : decode cX7_meet 27 = .ok (.iconst 1, 1) := by decide +kernel
theorem dX7_meet_28 : decode cX7_meet 28 = .ok (.invokevirtual 51, 3) := by decide +kernel
theorem dX7_meet_31 : decode cX7_meet 31 = .ok (.ifCond .ne 5, 3) := by decide +kernel
theorem dX7_meet_34 : decode cX7_meet 34 = .ok (.iconst 0, 1) := by decide +kernel
theorem dX7_meet_35 : decode cX7_meet 35 = .ok (.ireturn, 1) := by decide +kernel
theorem dX7_meet_36 : decode cX7_meet 36 = .ok (.aload_n 0, 1) := by decide +kernel
theorem dX7_meet_37 : decode cX7_meet 37 = .ok (.getfield 9, 3) := by decide +kernel
theorem dX7_meet_40 : decode cX7_meet 40 = .ok (.iload_n 1, 1) := by decide +kernel
theorem dX7_meet_41 : decode cX7_meet 41 = .ok (.iaload, 1) := by decide +kernel
theorem dX7_meet_42 : decode cX7_meet 42 = .ok (.aload_n 0, 1) := by decide +kernel
theorem dX7_meet_43 : decode cX7_meet 43 = .ok (.getfield 9, 3) := by decide +kernel
theorem dX7_meet_46 : decode cX7_meet 46 = .ok (.iload_n 2, 1) := by decide +kernel
theorem dX7_meet_47 : decode cX7_meet 47 = .ok (.iaload, 1) := by decide +kernel
theorem dX7_meet_48 : decode cX7_meet 48 = .ok (.if_icmp .eq 6, 3) := by decide +kernel
theorem dX7_meet_51 : decode cX7_meet 51 = .ok (.bipush (-9), 2) := by decide +kernel
theorem dX7_meet_53 : decode cX7_meet 53 = .ok (.ireturn, 1) := by decide +kernel
theorem dX7_meet_54 : decode cX7_meet 54 = .ok (.aload_n 0, 1) := by decide +kernel
theorem dX7_meet_55 : decode cX7_meet 55 = .ok (.iconst 4, 1) := by decide +kernel
theorem dX7_meet_56 : decode cX7_meet 56 = .ok (.aload_n 0, 1) := by decide +kernel
theorem dX7_meet_57 : decode cX7_meet 57 = .ok (.getfield 9, 3) := by decide +kernel
theorem dX7_meet_60 : decode cX7_meet 60 = .ok (.iload_n 1, 1) := by decide +kernel
theorem dX7_meet_61 : decode cX7_meet 61 = .ok (.iaload, 1) := by decide +kernel
theorem dX7_meet_62 : decode cX7_meet 62 = .ok (.invokevirtual 55, 3) := by decide +kernel
theorem dX7_meet_65 : decode cX7_meet 65 = .ok (.iconst 0, 1) := by decide +kernel
theorem dX7_meet_66 : decode cX7_meet 66 = .ok (.istore 4, 2) := by decide +kernel
theorem dX7_meet_68 : decode cX7_meet 68 = .ok (.iload 4, 2) := by decide +kernel
theorem dX7_meet_70 : decode cX7_meet 70 = .ok (.aload_n 0, 1) := by decide +kernel
theorem dX7_meet_71 : decode cX7_meet 71 = .ok (.getfield 9, 3) := by decide +kernel
theorem dX7_meet_74 : decode cX7_meet 74 = .ok (.iload_n 1, 1) := by decide +kernel
theorem dX7_meet_75 : decode cX7_meet 75 = .ok (.iaload, 1) := by decide +kernel
theorem dX7_meet_76 : decode cX7_meet 76 = .ok (.if_icmp .ge 94, 3) := by decide +kernel
theorem dX7_meet_79 : decode cX7_meet 79 = .ok (.aload_n 0, 1) := by decide +kernel
theorem dX7_meet_80 : decode cX7_meet 80 = .ok (.getfield 15, 3) := by decide +kernel
theorem dX7_meet_83 : decode cX7_meet 83 = .ok (.iconst 4, 1) := by decide +kernel
theorem dX7_meet_84 : decode cX7_meet 84 = .ok (.aaload, 1) := by decide +kernel
theorem dX7_meet_85 : decode cX7_meet 85 = .ok (.iload 4, 2) := by decide +kernel
theorem dX7_meet_87 : decode cX7_meet 87 = .ok (.aload_n 0, 1) := by decide +kernel
theorem dX7_meet_88 : decode cX7_meet 88 = .ok (.getfield 15, 3) := by decide +kernel
theorem dX7_meet_91 : decode cX7_meet 91 = .ok (.iload_n 1, 1) := by decide +kernel
theorem dX7_meet_92 : decode cX7_meet 92 = .ok (.aaload, 1) := by decide +kernel
theorem dX7_meet_93 : decode cX7_meet 93 = .ok (.iload 4, 2) := by decide +kernel
theorem dX7_meet_95 : decode cX7_meet 95 = .ok (.iaload, 1) := by decide +kernel
theorem dX7_meet_96 : decode cX7_meet 96 = .ok (.iastore, 1) := by decide +kernel
theorem dX7_meet_97 : decode cX7_meet 97 = .ok (.iconst 0, 1) := by decide +kernel
theorem dX7_meet_98 : decode cX7_meet 98 = .ok (.istore 5, 2) := by decide +kernel
theorem dX7_meet_100 : decode cX7_meet 100 = .ok (.iload 5, 2) := by decide +kernel
theorem dX7_meet_102 : decode cX7_meet 102 = .ok (.aload_n 0, 1) := by decide +kernel
theorem dX7_meet_103 : decode cX7_meet 103 = .ok (.getfield 9, 3) := by decide +kernel
theorem dX7_meet_106 : decode cX7_meet 106 = .ok (.iload_n 1, 1) := by decide +kernel
theorem dX7_meet_107 : decode cX7_meet 107 = .ok (.iaload, 1) := by decide +kernel
theorem dX7_meet_108 : decode cX7_meet 108 = .ok (.if_icmp .ge 56, 3) := by decide +kernel
theorem dX7_meet_111 : decode cX7_meet 111 = .ok (.aload_n 0, 1) := by decide +kernel
theorem dX7_meet_112 : decode cX7_meet 112 = .ok (.getfield 20, 3) := by decide +kernel
theorem dX7_meet_115 : decode cX7_meet 115 = .ok (.iconst 4, 1) := by decide +kernel
theorem dX7_meet_116 : decode cX7_meet 116 = .ok (.aaload, 1) := by decide +kernel
theorem dX7_meet_117 : decode cX7_meet 117 = .ok (.iload 4, 2) := by decide +kernel
theorem dX7_meet_119 : decode cX7_meet 119 = .ok (.aaload, 1) := by decide +kernel
theorem dX7_meet_120 : decode cX7_meet 120 = .ok (.iload 5, 2) := by decide +kernel
theorem dX7_meet_122 : decode cX7_meet 122 = .ok (.aload_n 0, 1) := by decide +kernel
theorem dX7_meet_123 : decode cX7_meet 123 = .ok (.getfield 20, 3) := by decide +kernel
theorem dX7_meet_126 : decode cX7_meet 126 = .ok (.iload_n 1, 1) := by decide +kernel
theorem dX7_meet_127 : decode cX7_meet 127 = .ok (.aaload, 1) := by decide +kernel
theorem dX7_meet_128 : decode cX7_meet 128 = .ok (.iload 4, 2) := by decide +kernel
theorem dX7_meet_130 : decode cX7_meet 130 = .ok (.aaload, 1) := by decide +kernel
theorem dX7_meet_131 : decode cX7_meet 131 = .ok (.iload 5, 2) := by decide +kernel
theorem dX7_meet_133 : decode cX7_meet 133 = .ok (.baload, 1) := by decide +kernel
theorem dX7_meet_134 : decode cX7_meet 134 = .ok (.ifCond .eq 22, 3) := by decide +kernel
theorem dX7_meet_137 : decode cX7_meet 137 = .ok (.aload_n 0, 1) := by decide +kernel
theorem dX7_meet_138 : decode cX7_meet 138 = .ok (.getfield 20, 3) := by decide +kernel
theorem dX7_meet_141 : decode cX7_meet 141 = .ok (.iload_n 2, 1) := by decide +kernel
theorem dX7_meet_142 : decode cX7_meet 142 = .ok (.aaload, 1) := by decide +kernel
theorem dX7_meet_143 : decode cX7_meet 143 = .ok (.iload 4, 2) := by decide +kernel
theorem dX7_meet_145 : decode cX7_meet 145 = .ok (.aaload, 1) := by decide +kernel
theorem dX7_meet_146 : decode cX7_meet 146 = .ok (.iload 5, 2) := by decide +kernel
theorem dX7_meet_148 : decode cX7_meet 148 = .ok (.baload, 1) := by decide +kernel
theorem dX7_meet_149 : decode cX7_meet 149 = .ok (.ifCond .eq 7, 3) := by decide +kernel
theorem dX7_meet_152 : decode cX7_meet 152 = .ok (.iconst 1, 1) := by decide +kernel
theorem dX7_meet_153 : decode cX7_meet 153 = .ok (.goto 4, 3) := by decide +kernel
theorem dX7_meet_156 : decode cX7_meet 156 = .ok (.iconst 0, 1) := by decide +kernel
theorem dX7_meet_157 : decode cX7_meet 157 = .ok (.bastore, 1) := by decide +kernel
theorem dX7_meet_158 : decode cX7_meet 158 = .ok (.iinc 5 1, 3) := by decide +kernel
theorem dX7_meet_161 : decode cX7_meet 161 = .ok (.goto (-61), 3) := by decide +kernel
theorem dX7_meet_164 : decode cX7_meet 164 = .ok (.iinc 4 1, 3) := by decide +kernel
theorem dX7_meet_167 : decode cX7_meet 167 = .ok (.goto (-99), 3) := by decide +kernel
theorem dX7_meet_170 : decode cX7_meet 170 = .ok (.aload_n 0, 1) := by decide +kernel
theorem dX7_meet_171 : decode cX7_meet 171 = .ok (.iload_n 3, 1) := by decide +kernel
theorem dX7_meet_172 : decode cX7_meet 172 = .ok (.iconst 4, 1) := by decide +kernel
theorem dX7_meet_173 : decode cX7_meet 173 = .ok (.invokevirtual 63, 3) := by decide +kernel
theorem dX7_meet_176 : decode cX7_meet 176 = .ok (.aload_n 0, 1) := by decide +kernel
theorem dX7_meet_177 : decode cX7_meet 177 = .ok (.iload_n 3, 1) := by decide +kernel
theorem dX7_meet_178 : decode cX7_meet 178 = .ok (.invokevirtual 59, 3) := by decide +kernel
theorem dX7_meet_181 : decode cX7_meet 181 = .ok (.ireturn, 1) := by decide +kernel
theorem dX7_things_0 : decode cX7_things 0 = .ok (.aload_n 0, 1) := by decide +kernel
theorem dX7_things_1 : decode cX7_things 1 = .ok (.iload_n 1, 1) := by decide +kernel
theorem dX7_things_2 : decode cX7_things 2 = .ok (.invokestatic 43, 3) := by decide +kernel
theorem dX7_things_5 : decode cX7_things 5 = .ok (.iconst 1, 1) := by decide +kernel
theorem dX7_things_6 : decode cX7_things 6 = .ok (.invokevirtual 51, 3) := by decide +kernel
theorem dX7_things_9 : decode cX7_things 9 = .ok (.ifCond .eq 12, 3) := by decide +kernel
theorem dX7_things_12 : decode cX7_things 12 = .ok (.aload_n 0, 1) := by decide +kernel
theorem dX7_things_13 : decode cX7_things 13 = .ok (.getfield 9, 3) := by decide +kernel
theorem dX7_things_16 : decode cX7_things 16 = .ok (.iload_n 1, 1) := by decide +kernel
theorem dX7_things_17 : decode cX7_things 17 = .ok (.iaload, 1) := by decide +kernel
theorem dX7_things_18 : decode cX7_things 18 = .ok (.goto 4, 3) := by decide +kernel
theorem dX7_things_21 : decode cX7_things 21 = .ok (.iconst 0, 1) := by decide +kernel
theorem dX7_things_22 : decode cX7_things 22 = .ok (.ireturn, 1) := by decide +kernel
theorem dX7_pairs_0 : decode cX7_pairs 0 = .ok (.aload_n 0, 1) := by decide +kernel
theorem dX7_pairs_1 : decode cX7_pairs 1 = .ok (.iload_n 1, 1) := by decide +kernel
theorem dX7_pairs_2 : decode cX7_pairs 2 = .ok (.invokestatic 43, 3) := by decide +kernel
theorem dX7_pairs_5 : decode cX7_pairs 5 = .ok (.iconst 1, 1) := by decide +kernel
theorem dX7_pairs_6 : decode cX7_pairs 6 = .ok (.invokevirtual 51, 3) := by decide +kernel
theorem dX7_pairs_9 : decode cX7_pairs 9 = .ok (.ifCond .eq 11, 3) := by decide +kernel
theorem dX7_pairs_12 : decode cX7_pairs 12 = .ok (.aload_n 0, 1) := by decide +kernel
theorem dX7_pairs_13 : decode cX7_pairs 13 = .ok (.iload_n 1, 1) := by decide +kernel
theorem dX7_pairs_14 : decode cX7_pairs 14 = .ok (.invokevirtual 59, 3) := by decide +kernel
theorem dX7_pairs_17 : decode cX7_pairs 17 = .ok (.goto 4, 3) := by decide +kernel
theorem dX7_pairs_20 : decode cX7_pairs 20 = .ok (.iconst 0, 1) := by decide +kernel
theorem dX7_pairs_21 : decode cX7_pairs 21 = .ok (.ireturn, 1) := by decide +kernel
theorem dX7_nexts_0 : decode cX7_nexts 0 = .ok (.aload_n 0, 1) := by decide +kernel
theorem dX7_nexts_1 : decode cX7_nexts 1 = .ok (.iload_n 1, 1) := by decide +kernel
theorem dX7_nexts_2 : decode cX7_nexts 2 = .ok (.invokestatic 43, 3) := by decide +kernel
theorem dX7_nexts_5 : decode cX7_nexts 5 = .ok (.iconst 1, 1) := by decide +kernel
theorem dX7_nexts_6 : decode cX7_nexts 6 = .ok (.invokevirtual 51, 3) := by decide +kernel
theorem dX7_nexts_9 : decode cX7_nexts 9 = .ok (.ifCond .ne 5, 3) := by decide +kernel
theorem dX7_nexts_12 : decode cX7_nexts 12 = .ok (.iconst 0, 1) := by decide +kernel
theorem dX7_nexts_13 : decode cX7_nexts 13 = .ok (.ireturn, 1) := by decide +kernel
theorem dX7_nexts_14 : decode cX7_nexts 14 = .ok (.iconst 0, 1) := by decide +kernel
theorem dX7_nexts_15 : decode cX7_nexts 15 = .ok (.istore_n 2, 1) := by decide +kernel
theorem dX7_nexts_16 : decode cX7_nexts 16 = .ok (.iconst 0, 1) := by decide +kernel
theorem dX7_nexts_17 : decode cX7_nexts 17 = .ok (.istore_n 3, 1) := by decide +kernel
theorem dX7_nexts_18 : decode cX7_nexts 18 = .ok (.iload_n 3, 1) := by decide +kernel
theorem dX7_nexts_19 : decode cX7_nexts 19 = .ok (.aload_n 0, 1) := by decide +kernel
theorem dX7_nexts_20 : decode cX7_nexts 20 = .ok (.getfield 9, 3) := by decide +kernel
theorem dX7_nexts_23 : decode cX7_nexts 23 = .ok (.iload_n 1, 1) := by decide +kernel
theorem dX7_nexts_24 : decode cX7_nexts 24 = .ok (.iaload, 1) := by decide +kernel
theorem dX7_nexts_25 : decode cX7_nexts 25 = .ok (.if_icmp .ge 48, 3) := by decide +kernel
theorem dX7_nexts_28 : decode cX7_nexts 28 = .ok (.iconst 0, 1) := by decide +kernel
theorem dX7_nexts_29 : decode cX7_nexts 29 = .ok (.istore 4, 2) := by decide +kernel
theorem dX7_nexts_31 : decode cX7_nexts 31 = .ok (.iload 4, 2) := by decide +kernel
theorem dX7_nexts_33 : decode cX7_nexts 33 = .ok (.aload_n 0, 1) := by decide +kernel
theorem dX7_nexts_34 : decode cX7_nexts 34 = .ok (.getfield 9, 3) := by decide +kernel
theorem dX7_nexts_37 : decode cX7_nexts 37 = .ok (.iload_n 1, 1) := by decide +kernel
theorem dX7_nexts_38 : decode cX7_nexts 38 = .ok (.iaload, 1) := by decide +kernel
theorem dX7_nexts_39 : decode cX7_nexts 39 = .ok (.if_icmp .ge 28, 3) := by decide +kernel
theorem dX7_nexts_42 : decode cX7_nexts 42 = .ok (.iload_n 2, 1) := by decide +kernel
theorem dX7_nexts_43 : decode cX7_nexts 43 = .ok (.aload_n 0, 1) := by decide +kernel
theorem dX7_nexts_44 : decode cX7_nexts 44 = .ok (.iload_n 1, 1) := by decide +kernel
theorem dX7_nexts_45 : decode cX7_nexts 45 = .ok (.iload_n 3, 1) := by decide +kernel
theorem dX7_nexts_46 : decode cX7_nexts 46 = .ok (.iload 4, 2) := by decide +kernel
theorem dX7_nexts_48 : decode cX7_nexts 48 = .ok (.invokevirtual 78, 3) := by decide +kernel
theorem dX7_nexts_51 : decode cX7_nexts 51 = .ok (.ifCond .eq 7, 3) := by decide +kernel
theorem dX7_nexts_54 : decode cX7_nexts 54 = .ok (.iconst 1, 1) := by decide +kernel
theorem dX7_nexts_55 : decode cX7_nexts 55 = .ok (.goto 4, 3) := by decide +kernel
theorem dX7_nexts_58 : decode cX7_nexts 58 = .ok (.iconst 0, 1) := by decide +kernel
theorem dX7_nexts_59 : decode cX7_nexts 59 = .ok (.iadd, 1) := by decide +kernel
theorem dX7_nexts_60 : decode cX7_nexts 60 = .ok (.istore_n 2, 1) := by decide +kernel
theorem dX7_nexts_61 : decode cX7_nexts 61 = .ok (.iinc 4 1, 3) := by decide +kernel
theorem dX7_nexts_64 : decode cX7_nexts 64 = .ok (.goto (-33), 3) := by decide +kernel
theorem dX7_nexts_67 : decode cX7_nexts 67 = .ok (.iinc 3 1, 3) := by decide +kernel
theorem dX7_nexts_70 : decode cX7_nexts 70 = .ok (.goto (-52), 3) := by decide +kernel
theorem dX7_nexts_73 : decode cX7_nexts 73 = .ok (.iload_n 2, 1) := by decide +kernel
theorem dX7_nexts_74 : decode cX7_nexts 74 = .ok (.ireturn, 1) := by decide +kernel
theorem dX7_sign_0 : decode cX7_sign 0 = .ok (.aload_n 0, 1) := by decide +kernel
theorem dX7_sign_1 : decode cX7_sign 1 = .ok (.aload_n 0, 1) := by decide +kernel
theorem dX7_sign_2 : decode cX7_sign 2 = .ok (.iload_n 1, 1) := by decide +kernel
theorem dX7_sign_3 : decode cX7_sign 3 = .ok (.iload_n 2, 1) := by decide +kernel
theorem dX7_sign_4 : decode cX7_sign 4 = .ok (.invokevirtual 66, 3) := by decide +kernel
theorem dX7_sign_7 : decode cX7_sign 7 = .ok (.ifCond .eq 16, 3) := by decide +kernel
theorem dX7_sign_10 : decode cX7_sign 10 = .ok (.aload_n 0, 1) := by decide +kernel
theorem dX7_sign_11 : decode cX7_sign 11 = .ok (.iload_n 1, 1) := by decide +kernel
theorem dX7_sign_12 : decode cX7_sign 12 = .ok (.iload_n 3, 1) := by decide +kernel
theorem dX7_sign_13 : decode cX7_sign 13 = .ok (.invokevirtual 66, 3) := by decide +kernel
theorem dX7_sign_16 : decode cX7_sign 16 = .ok (.ifCond .eq 7, 3) := by decide +kernel
theorem dX7_sign_19 : decode cX7_sign 19 = .ok (.iconst 1, 1) := by decide +kernel
theorem dX7_sign_20 : decode cX7_sign 20 = .ok (.goto 4, 3) := by decide +kernel
theorem dX7_sign_23 : decode cX7_sign 23 = .ok (.iconst 0, 1) := by decide +kernel
theorem dX7_sign_24 : decode cX7_sign 24 = .ok (.iconst 1, 1) := by decide +kernel
theorem dX7_sign_25 : decode cX7_sign 25 = .ok (.invokevirtual 51, 3) := by decide +kernel
theorem dX7_sign_28 : decode cX7_sign 28 = .ok (.ifCond .ne 6, 3) := by decide +kernel
theorem dX7_sign_31 : decode cX7_sign 31 = .ok (.bipush 32, 2) := by decide +kernel
theorem dX7_sign_33 : decode cX7_sign 33 = .ok (.ireturn, 1) := by decide +kernel
theorem dX7_sign_34 : decode cX7_sign 34 = .ok (.iload_n 2, 1) := by decide +kernel
theorem dX7_sign_35 : decode cX7_sign 35 = .ok (.iload_n 3, 1) := by decide +kernel
theorem dX7_sign_36 : decode cX7_sign 36 = .ok (.if_icmp .ne 8, 3) := by decide +kernel
theorem dX7_sign_39 : decode cX7_sign 39 = .ok (.bipush 61, 2) := by decide +kernel
theorem dX7_sign_41 : decode cX7_sign 41 = .ok (.goto 41, 3) := by decide +kernel
theorem dX7_sign_44 : decode cX7_sign 44 = .ok (.aload_n 0, 1) := by decide +kernel
theorem dX7_sign_45 : decode cX7_sign 45 = .ok (.getfield 20, 3) := by decide +kernel
theorem dX7_sign_48 : decode cX7_sign 48 = .ok (.iload_n 1, 1) := by decide +kernel
theorem dX7_sign_49 : decode cX7_sign 49 = .ok (.aaload, 1) := by decide +kernel
theorem dX7_sign_50 : decode cX7_sign 50 = .ok (.iload_n 2, 1) := by decide +kernel
theorem dX7_sign_51 : decode cX7_sign 51 = .ok (.aaload, 1) := by decide +kernel
theorem dX7_sign_52 : decode cX7_sign 52 = .ok (.iload_n 3, 1) := by decide +kernel
theorem dX7_sign_53 : decode cX7_sign 53 = .ok (.baload, 1) := by decide +kernel
theorem dX7_sign_54 : decode cX7_sign 54 = .ok (.ifCond .eq 8, 3) := by decide +kernel
theorem dX7_sign_57 : decode cX7_sign 57 = .ok (.bipush 60, 2) := by decide +kernel
theorem dX7_sign_59 : decode cX7_sign 59 = .ok (.goto 23, 3) := by decide +kernel
theorem dX7_sign_62 : decode cX7_sign 62 = .ok (.aload_n 0, 1) := by decide +kernel
theorem dX7_sign_63 : decode cX7_sign 63 = .ok (.getfield 20, 3) := by decide +kernel
theorem dX7_sign_66 : decode cX7_sign 66 = .ok (.iload_n 1, 1) := by decide +kernel
theorem dX7_sign_67 : decode cX7_sign 67 = .ok (.aaload, 1) := by decide +kernel
theorem dX7_sign_68 : decode cX7_sign 68 = .ok (.iload_n 3, 1) := by decide +kernel
theorem dX7_sign_69 : decode cX7_sign 69 = .ok (.aaload, 1) := by decide +kernel
theorem dX7_sign_70 : decode cX7_sign 70 = .ok (.iload_n 2, 1) := by decide +kernel
theorem dX7_sign_71 : decode cX7_sign 71 = .ok (.baload, 1) := by decide +kernel
theorem dX7_sign_72 : decode cX7_sign 72 = .ok (.ifCond .eq 8, 3) := by decide +kernel
theorem dX7_sign_75 : decode cX7_sign 75 = .ok (.bipush 62, 2) := by decide +kernel
theorem dX7_sign_77 : decode cX7_sign 77 = .ok (.goto 5, 3) := by decide +kernel
theorem dX7_sign_80 : decode cX7_sign 80 = .ok (.bipush 124, 2) := by decide +kernel
theorem dX7_sign_82 : decode cX7_sign 82 = .ok (.ireturn, 1) := by decide +kernel
theorem dX7_isNext_0 : decode cX7_isNext 0 = .ok (.aload_n 0, 1) := by decide +kernel
theorem dX7_isNext_1 : decode cX7_isNext 1 = .ok (.aload_n 0, 1) := by decide +kernel
theorem dX7_isNext_2 : decode cX7_isNext 2 = .ok (.iload_n 1, 1) := by decide +kernel
theorem dX7_isNext_3 : decode cX7_isNext 3 = .ok (.iload_n 2, 1) := by decide +kernel
theorem dX7_isNext_4 : decode cX7_isNext 4 = .ok (.invokevirtual 66, 3) := by decide +kernel
theorem dX7_isNext_7 : decode cX7_isNext 7 = .ok (.ifCond .eq 16, 3) := by decide +kernel
theorem dX7_isNext_10 : decode cX7_isNext 10 = .ok (.aload_n 0, 1) := by decide +kernel
theorem dX7_isNext_11 : decode cX7_isNext 11 = .ok (.iload_n 1, 1) := by decide +kernel
theorem dX7_isNext_12 : decode cX7_isNext 12 = .ok (.iload_n 3, 1) := by decide +kernel
theorem dX7_isNext_13 : decode cX7_isNext 13 = .ok (.invokevirtual 66, 3) := by decide +kernel
theorem dX7_isNext_16 : decode cX7_isNext 16 = .ok (.ifCond .eq 7, 3) := by decide +kernel
theorem dX7_isNext_19 : decode cX7_isNext 19 = .ok (.iconst 1, 1) := by decide +kernel
theorem dX7_isNext_20 : decode cX7_isNext 20 = .ok (.goto 4, 3) := by decide +kernel
theorem dX7_isNext_23 : decode cX7_isNext 23 = .ok (.iconst 0, 1) := by decide +kernel
theorem dX7_isNext_24 : decode cX7_isNext 24 = .ok (.iconst 1, 1) := by decide +kernel
theorem dX7_isNext_25 : decode cX7_isNext 25 = .ok (.invokevirtual 51, 3) := by decide +kernel
theorem dX7_isNext_28 : decode cX7_isNext 28 = .ok (.ifCond .eq 17, 3) := by decide +kernel
theorem dX7_isNext_31 : decode cX7_isNext 31 = .ok (.aload_n 0, 1) := by decide +kernel
theorem dX7_isNext_32 : decode cX7_isNext 32 = .ok (.iload_n 1, 1) := by decide +kernel
theorem dX7_isNext_33 : decode cX7_isNext 33 = .ok (.iload_n 2, 1) := by decide +kernel
theorem dX7_isNext_34 : decode cX7_isNext 34 = .ok (.iload_n 3, 1) := by decide +kernel
theorem dX7_isNext_35 : decode cX7_isNext 35 = .ok (.invokevirtual 78, 3) := by decide +kernel
theorem dX7_isNext_38 : decode cX7_isNext 38 = .ok (.ifCond .eq 7, 3) := by decide +kernel
theorem dX7_isNext_41 : decode cX7_isNext 41 = .ok (.iconst 1, 1) := by decide +kernel
theorem dX7_isNext_42 : decode cX7_isNext 42 = .ok (.goto 4, 3) := by decide +kernel
theorem dX7_isNext_45 : decode cX7_isNext 45 = .ok (.iconst 0, 1) := by decide +kernel
theorem dX7_isNext_46 : decode cX7_isNext 46 = .ok (.ireturn, 1) := by decide +kernel
theorem dX7_upperOf_0 : decode cX7_upperOf 0 = .ok (.iconst 0, 1) := by decide +kernel
theorem dX7_upperOf_1 : decode cX7_upperOf 1 = .ok (.istore_n 3, 1) := by decide +kernel
theorem dX7_upperOf_2 : decode cX7_upperOf 2 = .ok (.iconst 0, 1) := by decide +kernel
theorem dX7_upperOf_3 : decode cX7_upperOf 3 = .ok (.istore 4, 2) := by decide +kernel
theorem dX7_upperOf_5 : decode cX7_upperOf 5 = .ok (.iload 4, 2) := by decide +kernel
theorem dX7_upperOf_7 : decode cX7_upperOf 7 = .ok (.aload_n 0, 1) := by decide +kernel
theorem dX7_upperOf_8 : decode cX7_upperOf 8 = .ok (.getfield 9, 3) := by decide +kernel
theorem dX7_upperOf_11 : decode cX7_upperOf 11 = .ok (.iload_n 1, 1) := by decide +kernel
theorem dX7_upperOf_12 : decode cX7_upperOf 12 = .ok (.iaload, 1) := by decide +kernel
theorem dX7_upperOf_13 : decode cX7_upperOf 13 = .ok (.if_icmp .ge 34, 3) := by decide +kernel
theorem dX7_upperOf_16 : decode cX7_upperOf 16 = .ok (.iload_n 3, 1) := by decide +kernel
theorem dX7_upperOf_17 : decode cX7_upperOf 17 = .ok (.aload_n 0, 1) := by decide +kernel
theorem dX7_upperOf_18 : decode cX7_upperOf 18 = .ok (.getfield 20, 3) := by decide +kernel
theorem dX7_upperOf_21 : decode cX7_upperOf 21 = .ok (.iload_n 1, 1) := by decide +kernel
theorem dX7_upperOf_22 : decode cX7_upperOf 22 = .ok (.aaload, 1) := by decide +kernel
theorem dX7_upperOf_23 : decode cX7_upperOf 23 = .ok (.iload_n 2, 1) := by decide +kernel
theorem dX7_upperOf_24 : decode cX7_upperOf 24 = .ok (.aaload, 1) := by decide +kernel
theorem dX7_upperOf_25 : decode cX7_upperOf 25 = .ok (.iload 4, 2) := by decide +kernel
theorem dX7_upperOf_27 : decode cX7_upperOf 27 = .ok (.baload, 1) := by decide +kernel
theorem dX7_upperOf_28 : decode cX7_upperOf 28 = .ok (.ifCond .eq 10, 3) := by decide +kernel
theorem dX7_upperOf_31 : decode cX7_upperOf 31 = .ok (.iconst 1, 1) := by decide +kernel
theorem dX7_upperOf_32 : decode cX7_upperOf 32 = .ok (.iload 4, 2) := by decide +kernel
theorem dX7_upperOf_34 : decode cX7_upperOf 34 = .ok (.ishl, 1) := by decide +kernel
theorem dX7_upperOf_35 : decode cX7_upperOf 35 = .ok (.goto 4, 3) := by decide +kernel
theorem dX7_upperOf_38 : decode cX7_upperOf 38 = .ok (.iconst 0, 1) := by decide +kernel
theorem dX7_upperOf_39 : decode cX7_upperOf 39 = .ok (.iadd, 1) := by decide +kernel
theorem dX7_upperOf_40 : decode cX7_upperOf 40 = .ok (.istore_n 3, 1) := by decide +kernel
theorem dX7_upperOf_41 : decode cX7_upperOf 41 = .ok (.iinc 4 1, 3) := by decide +kernel
theorem dX7_upperOf_44 : decode cX7_upperOf 44 = .ok (.goto (-39), 3) := by decide +kernel
theorem dX7_upperOf_47 : decode cX7_upperOf 47 = .ok (.iload_n 3, 1) := by decide +kernel
theorem dX7_upperOf_48 : decode cX7_upperOf 48 = .ok (.ireturn, 1) := by decide +kernel
theorem dX7_lower_0 : decode cX7_lower 0 = .ok (.aload_n 0, 1) := by decide +kernel
theorem dX7_lower_1 : decode cX7_lower 1 = .ok (.aload_n 0, 1) := by decide +kernel
theorem dX7_lower_2 : decode cX7_lower 2 = .ok (.iload_n 1, 1) := by decide +kernel
theorem dX7_lower_3 : decode cX7_lower 3 = .ok (.iload_n 2, 1) := by decide +kernel
theorem dX7_lower_4 : decode cX7_lower 4 = .ok (.invokevirtual 66, 3) := by decide +kernel
theorem dX7_lower_7 : decode cX7_lower 7 = .ok (.iconst 1, 1) := by decide +kernel
theorem dX7_lower_8 : decode cX7_lower 8 = .ok (.invokevirtual 51, 3) := by decide +kernel
theorem dX7_lower_11 : decode cX7_lower 11 = .ok (.ifCond .eq 12, 3) := by decide +kernel
theorem dX7_lower_14 : decode cX7_lower 14 = .ok (.aload_n 0, 1) := by decide +kernel
theorem dX7_lower_15 : decode cX7_lower 15 = .ok (.iload_n 1, 1) := by decide +kernel
theorem dX7_lower_16 : decode cX7_lower 16 = .ok (.iload_n 2, 1) := by decide +kernel
theorem dX7_lower_17 : decode cX7_lower 17 = .ok (.invokevirtual 95, 3) := by decide +kernel
theorem dX7_lower_20 : decode cX7_lower 20 = .ok (.goto 4, 3) := by decide +kernel
theorem dX7_lower_23 : decode cX7_lower 23 = .ok (.iconst 0, 1) := by decide +kernel
theorem dX7_lower_24 : decode cX7_lower 24 = .ok (.ireturn, 1) := by decide +kernel
theorem dX7_upper_0 : decode cX7_upper 0 = .ok (.aload_n 0, 1) := by decide +kernel
theorem dX7_upper_1 : decode cX7_upper 1 = .ok (.aload_n 0, 1) := by decide +kernel
theorem dX7_upper_2 : decode cX7_upper 2 = .ok (.iload_n 1, 1) := by decide +kernel
theorem dX7_upper_3 : decode cX7_upper 3 = .ok (.iload_n 2, 1) := by decide +kernel
theorem dX7_upper_4 : decode cX7_upper 4 = .ok (.invokevirtual 66, 3) := by decide +kernel
theorem dX7_upper_7 : decode cX7_upper 7 = .ok (.iconst 1, 1) := by decide +kernel
theorem dX7_upper_8 : decode cX7_upper 8 = .ok (.invokevirtual 51, 3) := by decide +kernel
theorem dX7_upper_11 : decode cX7_upper 11 = .ok (.ifCond .eq 12, 3) := by decide +kernel
theorem dX7_upper_14 : decode cX7_upper 14 = .ok (.aload_n 0, 1) := by decide +kernel
theorem dX7_upper_15 : decode cX7_upper 15 = .ok (.iload_n 1, 1) := by decide +kernel
theorem dX7_upper_16 : decode cX7_upper 16 = .ok (.iload_n 2, 1) := by decide +kernel
theorem dX7_upper_17 : decode cX7_upper 17 = .ok (.invokevirtual 98, 3) := by decide +kernel
theorem dX7_upper_20 : decode cX7_upper 20 = .ok (.goto 4, 3) := by decide +kernel
theorem dX7_upper_23 : decode cX7_upper 23 = .ok (.iconst 0, 1) := by decide +kernel
theorem dX7_upper_24 : decode cX7_upper 24 = .ok (.ireturn, 1) := by decide +kernel
theorem dX7_ends_0 : decode cX7_ends 0 = .ok (.aload_n 0, 1) := by decide +kernel
theorem dX7_ends_1 : decode cX7_ends 1 = .ok (.iload_n 1, 1) := by decide +kernel
theorem dX7_ends_2 : decode cX7_ends 2 = .ok (.invokestatic 43, 3) := by decide +kernel
theorem dX7_ends_5 : decode cX7_ends 5 = .ok (.iconst 1, 1) := by decide +kernel
theorem dX7_ends_6 : decode cX7_ends 6 = .ok (.invokevirtual 51, 3) := by decide +kernel
theorem dX7_ends_9 : decode cX7_ends 9 = .ok (.ifCond .ne 5, 3) := by decide +kernel
theorem dX7_ends_12 : decode cX7_ends 12 = .ok (.iconst 0, 1) := by decide +kernel
theorem dX7_ends_13 : decode cX7_ends 13 = .ok (.ireturn, 1) := by decide +kernel
theorem dX7_ends_14 : decode cX7_ends 14 = .ok (.iconst 0, 1) := by decide +kernel
theorem dX7_ends_15 : decode cX7_ends 15 = .ok (.istore_n 3, 1) := by decide +kernel
theorem dX7_ends_16 : decode cX7_ends 16 = .ok (.iconst 0, 1) := by decide +kernel
theorem dX7_ends_17 : decode cX7_ends 17 = .ok (.istore 4, 2) := by decide +kernel
theorem dX7_ends_19 : decode cX7_ends 19 = .ok (.iload 4, 2) := by decide +kernel
theorem dX7_ends_21 : decode cX7_ends 21 = .ok (.aload_n 0, 1) := by decide +kernel
theorem dX7_ends_22 : decode cX7_ends 22 = .ok (.getfield 9, 3) := by decide +kernel
theorem dX7_ends_25 : decode cX7_ends 25 = .ok (.iload_n 1, 1) := by decide +kernel
theorem dX7_ends_26 : decode cX7_ends 26 = .ok (.iaload, 1) := by decide +kernel
theorem dX7_ends_27 : decode cX7_ends 27 = .ok (.if_icmp .ge 48, 3) := by decide +kernel
theorem dX7_ends_30 : decode cX7_ends 30 = .ok (.iload_n 2, 1) := by decide +kernel
theorem dX7_ends_31 : decode cX7_ends 31 = .ok (.ifCond .eq 13, 3) := by decide +kernel
theorem dX7_ends_34 : decode cX7_ends 34 = .ok (.aload_n 0, 1) := by decide +kernel
theorem dX7_ends_35 : decode cX7_ends 35 = .ok (.iload_n 1, 1) := by decide +kernel
theorem dX7_ends_36 : decode cX7_ends 36 = .ok (.iload 4, 2) := by decide +kernel
theorem dX7_ends_38 : decode cX7_ends 38 = .ok (.invokevirtual 98, 3) := by decide +kernel
theorem dX7_ends_41 : decode cX7_ends 41 = .ok (.goto 10, 3) := by decide +kernel
theorem dX7_ends_44 : decode cX7_ends 44 = .ok (.aload_n 0, 1) := by decide +kernel
theorem dX7_ends_45 : decode cX7_ends 45 = .ok (.iload_n 1, 1) := by decide +kernel
theorem dX7_ends_46 : decode cX7_ends 46 = .ok (.iload 4, 2) := by decide +kernel
theorem dX7_ends_48 : decode cX7_ends 48 = .ok (.invokevirtual 95, 3) := by decide +kernel
theorem dX7_ends_51 : decode cX7_ends 51 = .ok (.istore 5, 2) := by decide +kernel
theorem dX7_ends_53 : decode cX7_ends 53 = .ok (.iload_n 3, 1) := by decide +kernel
theorem dX7_ends_54 : decode cX7_ends 54 = .ok (.iload 5, 2) := by decide +kernel
theorem dX7_ends_56 : decode cX7_ends 56 = .ok (.ifCond .ne 10, 3) := by decide +kernel
theorem dX7_ends_59 : decode cX7_ends 59 = .ok (.iconst 1, 1) := by decide +kernel
theorem dX7_ends_60 : decode cX7_ends 60 = .ok (.iload 4, 2) := by decide +kernel
theorem dX7_ends_62 : decode cX7_ends 62 = .ok (.ishl, 1) := by decide +kernel
theorem dX7_ends_63 : decode cX7_ends 63 = .ok (.goto 4, 3) := by decide +kernel
theorem dX7_ends_66 : decode cX7_ends 66 = .ok (.iconst 0, 1) := by decide +kernel
theorem dX7_ends_67 : decode cX7_ends 67 = .ok (.iadd, 1) := by decide +kernel
theorem dX7_ends_68 : decode cX7_ends 68 = .ok (.istore_n 3, 1) := by decide +kernel
theorem dX7_ends_69 : decode cX7_ends 69 = .ok (.iinc 4 1, 3) := by decide +kernel
theorem dX7_ends_72 : decode cX7_ends 72 = .ok (.goto (-53), 3) := by decide +kernel
theorem dX7_ends_75 : decode cX7_ends 75 = .ok (.iload_n 3, 1) := by decide +kernel
theorem dX7_ends_76 : decode cX7_ends 76 = .ok (.ireturn, 1) := by decide +kernel
theorem dX7_value_0 : decode cX7_value 0 = .ok (.aload_n 0, 1) := by decide +kernel
theorem dX7_value_1 : decode cX7_value 1 = .ok (.aload_n 0, 1) := by decide +kernel
theorem dX7_value_2 : decode cX7_value 2 = .ok (.iload_n 1, 1) := by decide +kernel
theorem dX7_value_3 : decode cX7_value 3 = .ok (.iload_n 2, 1) := by decide +kernel
theorem dX7_value_4 : decode cX7_value 4 = .ok (.invokevirtual 66, 3) := by decide +kernel
theorem dX7_value_7 : decode cX7_value 7 = .ok (.iconst 1, 1) := by decide +kernel
theorem dX7_value_8 : decode cX7_value 8 = .ok (.invokevirtual 51, 3) := by decide +kernel
theorem dX7_value_11 : decode cX7_value 11 = .ok (.ifCond .eq 14, 3) := by decide +kernel
theorem dX7_value_14 : decode cX7_value 14 = .ok (.aload_n 0, 1) := by decide +kernel
theorem dX7_value_15 : decode cX7_value 15 = .ok (.getfield 15, 3) := by decide +kernel
theorem dX7_value_18 : decode cX7_value 18 = .ok (.iload_n 1, 1) := by decide +kernel
theorem dX7_value_19 : decode cX7_value 19 = .ok (.aaload, 1) := by decide +kernel
theorem dX7_value_20 : decode cX7_value 20 = .ok (.iload_n 2, 1) := by decide +kernel
theorem dX7_value_21 : decode cX7_value 21 = .ok (.iaload, 1) := by decide +kernel
theorem dX7_value_22 : decode cX7_value 22 = .ok (.goto 4, 3) := by decide +kernel
theorem dX7_value_25 : decode cX7_value 25 = .ok (.iconst 0, 1) := by decide +kernel
theorem dX7_value_26 : decode cX7_value 26 = .ok (.ireturn, 1) := by decide +kernel
theorem dX7_isSame_0 : decode cX7_isSame 0 = .ok (.aload_n 0, 1) := by decide +kernel
theorem dX7_isSame_1 : decode cX7_isSame 1 = .ok (.iload_n 1, 1) := by decide +kernel
theorem dX7_isSame_2 : decode cX7_isSame 2 = .ok (.invokestatic 43, 3) := by decide +kernel
theorem dX7_isSame_5 : decode cX7_isSame 5 = .ok (.ifCond .eq 14, 3) := by decide +kernel
theorem dX7_isSame_8 : decode cX7_isSame 8 = .ok (.iload_n 2, 1) := by decide +kernel
theorem dX7_isSame_9 : decode cX7_isSame 9 = .ok (.invokestatic 43, 3) := by decide +kernel
theorem dX7_isSame_12 : decode cX7_isSame 12 = .ok (.ifCond .eq 7, 3) := by decide +kernel
theorem dX7_isSame_15 : decode cX7_isSame 15 = .ok (.iconst 1, 1) := by decide +kernel
theorem dX7_isSame_16 : decode cX7_isSame 16 = .ok (.goto 4, 3) := by decide +kernel
theorem dX7_isSame_19 : decode cX7_isSame 19 = .ok (.iconst 0, 1) := by decide +kernel
theorem dX7_isSame_20 : decode cX7_isSame 20 = .ok (.iconst 1, 1) := by decide +kernel
theorem dX7_isSame_21 : decode cX7_isSame 21 = .ok (.invokevirtual 51, 3) := by decide +kernel
theorem dX7_isSame_24 : decode cX7_isSame 24 = .ok (.ifCond .ne 5, 3) := by decide +kernel
theorem dX7_isSame_27 : decode cX7_isSame 27 = .ok (.iconst 0, 1) := by decide +kernel
theorem dX7_isSame_28 : decode cX7_isSame 28 = .ok (.ireturn, 1) := by decide +kernel
theorem dX7_isSame_29 : decode cX7_isSame 29 = .ok (.aload_n 0, 1) := by decide +kernel
theorem dX7_isSame_30 : decode cX7_isSame 30 = .ok (.getfield 9, 3) := by decide +kernel
theorem dX7_isSame_33 : decode cX7_isSame 33 = .ok (.iload_n 1, 1) := by decide +kernel
theorem dX7_isSame_34 : decode cX7_isSame 34 = .ok (.iaload, 1) := by decide +kernel
theorem dX7_isSame_35 : decode cX7_isSame 35 = .ok (.aload_n 0, 1) := by decide +kernel
theorem dX7_isSame_36 : decode cX7_isSame 36 = .ok (.getfield 9, 3) := by decide +kernel
theorem dX7_isSame_39 : decode cX7_isSame 39 = .ok (.iload_n 2, 1) := by decide +kernel
theorem dX7_isSame_40 : decode cX7_isSame 40 = .ok (.iaload, 1) := by decide +kernel
theorem dX7_isSame_41 : decode cX7_isSame 41 = .ok (.if_icmp .ne 7, 3) := by decide +kernel
theorem dX7_isSame_44 : decode cX7_isSame 44 = .ok (.iconst 1, 1) := by decide +kernel
theorem dX7_isSame_45 : decode cX7_isSame 45 = .ok (.goto 4, 3) := by decide +kernel
theorem dX7_isSame_48 : decode cX7_isSame 48 = .ok (.iconst 0, 1) := by decide +kernel
theorem dX7_isSame_49 : decode cX7_isSame 49 = .ok (.istore_n 3, 1) := by decide +kernel
theorem dX7_isSame_50 : decode cX7_isSame 50 = .ok (.iconst 0, 1) := by decide +kernel
theorem dX7_isSame_51 : decode cX7_isSame 51 = .ok (.istore 4, 2) := by decide +kernel
theorem dX7_isSame_53 : decode cX7_isSame 53 = .ok (.iload 4, 2) := by decide +kernel
theorem dX7_isSame_55 : decode cX7_isSame 55 = .ok (.aload_n 0, 1) := by decide +kernel
theorem dX7_isSame_56 : decode cX7_isSame 56 = .ok (.getfield 9, 3) := by decide +kernel
theorem dX7_isSame_59 : decode cX7_isSame 59 = .ok (.iload_n 1, 1) := by decide +kernel
theorem dX7_isSame_60 : decode cX7_isSame 60 = .ok (.iaload, 1) := by decide +kernel
theorem dX7_isSame_61 : decode cX7_isSame 61 = .ok (.if_icmp .ge 66, 3) := by decide +kernel
theorem dX7_isSame_64 : decode cX7_isSame 64 = .ok (.iconst 0, 1) := by decide +kernel
theorem dX7_isSame_65 : decode cX7_isSame 65 = .ok (.istore 5, 2) := by decide +kernel
theorem dX7_isSame_67 : decode cX7_isSame 67 = .ok (.iload 5, 2) := by decide +kernel
theorem dX7_isSame_69 : decode cX7_isSame 69 = .ok (.aload_n 0, 1) := by decide +kernel
theorem dX7_isSame_70 : decode cX7_isSame 70 = .ok (.getfield 9, 3) := by decide +kernel
theorem dX7_isSame_73 : decode cX7_isSame 73 = .ok (.iload_n 1, 1) := by decide +kernel
theorem dX7_isSame_74 : decode cX7_isSame 74 = .ok (.iaload, 1) := by decide +kernel
theorem dX7_isSame_75 : decode cX7_isSame 75 = .ok (.if_icmp .ge 46, 3) := by decide +kernel
theorem dX7_isSame_78 : decode cX7_isSame 78 = .ok (.iload_n 3, 1) := by decide +kernel
theorem dX7_isSame_79 : decode cX7_isSame 79 = .ok (.ifCond .eq 34, 3) := by decide +kernel
theorem dX7_isSame_82 : decode cX7_isSame 82 = .ok (.aload_n 0, 1) := by decide +kernel
theorem dX7_isSame_83 : decode cX7_isSame 83 = .ok (.getfield 20, 3) := by decide +kernel
theorem dX7_isSame_86 : decode cX7_isSame 86 = .ok (.iload_n 1, 1) := by decide +kernel
theorem dX7_isSame_87 : decode cX7_isSame 87 = .ok (.aaload, 1) := by decide +kernel
theorem dX7_isSame_88 : decode cX7_isSame 88 = .ok (.iload 4, 2) := by decide +kernel
theorem dX7_isSame_90 : decode cX7_isSame 90 = .ok (.aaload, 1) := by decide +kernel
theorem dX7_isSame_91 : decode cX7_isSame 91 = .ok (.iload 5, 2) := by decide +kernel
theorem dX7_isSame_93 : decode cX7_isSame 93 = .ok (.baload, 1) := by decide +kernel
theorem dX7_isSame_94 : decode cX7_isSame 94 = .ok (.aload_n 0, 1) := by decide +kernel
theorem dX7_isSame_95 : decode cX7_isSame 95 = .ok (.getfield 20, 3) := by decide +kernel
theorem dX7_isSame_98 : decode cX7_isSame 98 = .ok (.iload_n 2, 1) := by decide +kernel
theorem dX7_isSame_99 : decode cX7_isSame 99 = .ok (.aaload, 1) := by decide +kernel
theorem dX7_isSame_100 : decode cX7_isSame 100 = .ok (.iload 4, 2) := by decide +kernel
theorem dX7_isSame_102 : decode cX7_isSame 102 = .ok (.aaload, 1) := by decide +kernel
theorem dX7_isSame_103 : decode cX7_isSame 103 = .ok (.iload 5, 2) := by decide +kernel
theorem dX7_isSame_105 : decode cX7_isSame 105 = .ok (.baload, 1) := by decide +kernel
theorem dX7_isSame_106 : decode cX7_isSame 106 = .ok (.if_icmp .ne 7, 3) := by decide +kernel
theorem dX7_isSame_109 : decode cX7_isSame 109 = .ok (.iconst 1, 1) := by decide +kernel
theorem dX7_isSame_110 : decode cX7_isSame 110 = .ok (.goto 4, 3) := by decide +kernel
theorem dX7_isSame_113 : decode cX7_isSame 113 = .ok (.iconst 0, 1) := by decide +kernel
theorem dX7_isSame_114 : decode cX7_isSame 114 = .ok (.istore_n 3, 1) := by decide +kernel
theorem dX7_isSame_115 : decode cX7_isSame 115 = .ok (.iinc 5 1, 3) := by decide +kernel
theorem dX7_isSame_118 : decode cX7_isSame 118 = .ok (.goto (-51), 3) := by decide +kernel
theorem dX7_isSame_121 : decode cX7_isSame 121 = .ok (.iinc 4 1, 3) := by decide +kernel
theorem dX7_isSame_124 : decode cX7_isSame 124 = .ok (.goto (-71), 3) := by decide +kernel
theorem dX7_isSame_127 : decode cX7_isSame 127 = .ok (.iload_n 3, 1) := by decide +kernel
theorem dX7_isSame_128 : decode cX7_isSame 128 = .ok (.ireturn, 1) := by decide +kernel
theorem dX7_isAll_0 : decode cX7_isAll 0 = .ok (.iconst 1, 1) := by decide +kernel
theorem dX7_isAll_1 : decode cX7_isAll 1 = .ok (.istore 4, 2) := by decide +kernel
theorem dX7_isAll_3 : decode cX7_isAll 3 = .ok (.iconst 0, 1) := by decide +kernel
theorem dX7_isAll_4 : decode cX7_isAll 4 = .ok (.istore 5, 2) := by decide +kernel
theorem dX7_isAll_6 : decode cX7_isAll 6 = .ok (.iload 5, 2) := by decide +kernel
theorem dX7_isAll_8 : decode cX7_isAll 8 = .ok (.aload_n 0, 1) := by decide +kernel
theorem dX7_isAll_9 : decode cX7_isAll 9 = .ok (.getfield 9, 3) := by decide +kernel
theorem dX7_isAll_12 : decode cX7_isAll 12 = .ok (.iload_n 1, 1) := by decide +kernel
theorem dX7_isAll_13 : decode cX7_isAll 13 = .ok (.iaload, 1) := by decide +kernel
theorem dX7_isAll_14 : decode cX7_isAll 14 = .ok (.if_icmp .ge 106, 3) := by decide +kernel
theorem dX7_isAll_17 : decode cX7_isAll 17 = .ok (.iconst 0, 1) := by decide +kernel
theorem dX7_isAll_18 : decode cX7_isAll 18 = .ok (.istore 6, 2) := by decide +kernel
theorem dX7_isAll_20 : decode cX7_isAll 20 = .ok (.iload 6, 2) := by decide +kernel
theorem dX7_isAll_22 : decode cX7_isAll 22 = .ok (.iload 5, 2) := by decide +kernel
theorem dX7_isAll_24 : decode cX7_isAll 24 = .ok (.if_icmp .ge 90, 3) := by decide +kernel
theorem dX7_isAll_27 : decode cX7_isAll 27 = .ok (.iload_n 2, 1) := by decide +kernel
theorem dX7_isAll_28 : decode cX7_isAll 28 = .ok (.iload 5, 2) := by decide +kernel
theorem dX7_isAll_30 : decode cX7_isAll 30 = .ok (.invokestatic 47, 3) := by decide +kernel
theorem dX7_isAll_33 : decode cX7_isAll 33 = .ok (.ifCond .eq 16, 3) := by decide +kernel
theorem dX7_isAll_36 : decode cX7_isAll 36 = .ok (.iload_n 2, 1) := by decide +kernel
theorem dX7_isAll_37 : decode cX7_isAll 37 = .ok (.iload 6, 2) := by decide +kernel
theorem dX7_isAll_39 : decode cX7_isAll 39 = .ok (.invokestatic 47, 3) := by decide +kernel
theorem dX7_isAll_42 : decode cX7_isAll 42 = .ok (.ifCond .eq 7, 3) := by decide +kernel
theorem dX7_isAll_45 : decode cX7_isAll 45 = .ok (.iconst 1, 1) := by decide +kernel
theorem dX7_isAll_46 : decode cX7_isAll 46 = .ok (.goto 4, 3) := by decide +kernel
theorem dX7_isAll_49 : decode cX7_isAll 49 = .ok (.iconst 0, 1) := by decide +kernel
theorem dX7_isAll_50 : decode cX7_isAll 50 = .ok (.istore 7, 2) := by decide +kernel
theorem dX7_isAll_52 : decode cX7_isAll 52 = .ok (.iload 4, 2) := by decide +kernel
theorem dX7_isAll_54 : decode cX7_isAll 54 = .ok (.ifCond .eq 51, 3) := by decide +kernel
theorem dX7_isAll_57 : decode cX7_isAll 57 = .ok (.iload 7, 2) := by decide +kernel
theorem dX7_isAll_59 : decode cX7_isAll 59 = .ok (.ifCond .eq 42, 3) := by decide +kernel
theorem dX7_isAll_62 : decode cX7_isAll 62 = .ok (.aload_n 0, 1) := by decide +kernel
theorem dX7_isAll_63 : decode cX7_isAll 63 = .ok (.getfield 20, 3) := by decide +kernel
theorem dX7_isAll_66 : decode cX7_isAll 66 = .ok (.iload_n 1, 1) := by decide +kernel
theorem dX7_isAll_67 : decode cX7_isAll 67 = .ok (.aaload, 1) := by decide +kernel
theorem dX7_isAll_68 : decode cX7_isAll 68 = .ok (.iload 5, 2) := by decide +kernel
theorem dX7_isAll_70 : decode cX7_isAll 70 = .ok (.aaload, 1) := by decide +kernel
theorem dX7_isAll_71 : decode cX7_isAll 71 = .ok (.iload 6, 2) := by decide +kernel
theorem dX7_isAll_73 : decode cX7_isAll 73 = .ok (.baload, 1) := by decide +kernel
theorem dX7_isAll_74 : decode cX7_isAll 74 = .ok (.ifCond .ne 18, 3) := by decide +kernel
theorem dX7_isAll_77 : decode cX7_isAll 77 = .ok (.aload_n 0, 1) := by decide +kernel
theorem dX7_isAll_78 : decode cX7_isAll 78 = .ok (.getfield 20, 3) := by decide +kernel
theorem dX7_isAll_81 : decode cX7_isAll 81 = .ok (.iload_n 1, 1) := by decide +kernel
theorem dX7_isAll_82 : decode cX7_isAll 82 = .ok (.aaload, 1) := by decide +kernel
theorem dX7_isAll_83 : decode cX7_isAll 83 = .ok (.iload 6, 2) := by decide +kernel
theorem dX7_isAll_85 : decode cX7_isAll 85 = .ok (.aaload, 1) := by decide +kernel
theorem dX7_isAll_86 : decode cX7_isAll 86 = .ok (.iload 5, 2) := by decide +kernel
theorem dX7_isAll_88 : decode cX7_isAll 88 = .ok (.baload, 1) := by decide +kernel
theorem dX7_isAll_89 : decode cX7_isAll 89 = .ok (.ifCond .eq 7, 3) := by decide +kernel
theorem dX7_isAll_92 : decode cX7_isAll 92 = .ok (.iconst 1, 1) := by decide +kernel
theorem dX7_isAll_93 : decode cX7_isAll 93 = .ok (.goto 4, 3) := by decide +kernel
theorem dX7_isAll_96 : decode cX7_isAll 96 = .ok (.iconst 0, 1) := by decide +kernel
theorem dX7_isAll_97 : decode cX7_isAll 97 = .ok (.iload_n 3, 1) := by decide +kernel
theorem dX7_isAll_98 : decode cX7_isAll 98 = .ok (.if_icmp .ne 7, 3) := by decide +kernel
theorem dX7_isAll_101 : decode cX7_isAll 101 = .ok (.iconst 1, 1) := by decide +kernel
theorem dX7_isAll_102 : decode cX7_isAll 102 = .ok (.goto 4, 3) := by decide +kernel
theorem dX7_isAll_105 : decode cX7_isAll 105 = .ok (.iconst 0, 1) := by decide +kernel
theorem dX7_isAll_106 : decode cX7_isAll 106 = .ok (.istore 4, 2) := by decide +kernel
theorem dX7_isAll_108 : decode cX7_isAll 108 = .ok (.iinc 6 1, 3) := by decide +kernel
theorem dX7_isAll_111 : decode cX7_isAll 111 = .ok (.goto (-91), 3) := by decide +kernel
theorem dX7_isAll_114 : decode cX7_isAll 114 = .ok (.iinc 5 1, 3) := by decide +kernel
theorem dX7_isAll_117 : decode cX7_isAll 117 = .ok (.goto (-111), 3) := by decide +kernel
theorem dX7_isAll_120 : decode cX7_isAll 120 = .ok (.iload 4, 2) := by decide +kernel
theorem dX7_isAll_122 : decode cX7_isAll 122 = .ok (.ireturn, 1) := by decide +kernel
theorem dX7_isChain_0 : decode cX7_isChain 0 = .ok (.aload_n 0, 1) := by decide +kernel
theorem dX7_isChain_1 : decode cX7_isChain 1 = .ok (.iload_n 1, 1) := by decide +kernel
theorem dX7_isChain_2 : decode cX7_isChain 2 = .ok (.invokestatic 43, 3) := by decide +kernel
theorem dX7_isChain_5 : decode cX7_isChain 5 = .ok (.iconst 1, 1) := by decide +kernel
theorem dX7_isChain_6 : decode cX7_isChain 6 = .ok (.invokevirtual 51, 3) := by decide +kernel
theorem dX7_isChain_9 : decode cX7_isChain 9 = .ok (.ifCond .eq 31, 3) := by decide +kernel
theorem dX7_isChain_12 : decode cX7_isChain 12 = .ok (.aload_n 0, 1) := by decide +kernel
theorem dX7_isChain_13 : decode cX7_isChain 13 = .ok (.aload_n 0, 1) := by decide +kernel
theorem dX7_isChain_14 : decode cX7_isChain 14 = .ok (.iload_n 1, 1) := by decide +kernel
theorem dX7_isChain_15 : decode cX7_isChain 15 = .ok (.iload_n 2, 1) := by decide +kernel
theorem dX7_isChain_16 : decode cX7_isChain 16 = .ok (.invokevirtual 72, 3) := by decide +kernel
theorem dX7_isChain_19 : decode cX7_isChain 19 = .ok (.iconst 2, 1) := by decide +kernel
theorem dX7_isChain_20 : decode cX7_isChain 20 = .ok (.invokevirtual 51, 3) := by decide +kernel
theorem dX7_isChain_23 : decode cX7_isChain 23 = .ok (.ifCond .eq 17, 3) := by decide +kernel
theorem dX7_isChain_26 : decode cX7_isChain 26 = .ok (.aload_n 0, 1) := by decide +kernel
theorem dX7_isChain_27 : decode cX7_isChain 27 = .ok (.iload_n 1, 1) := by decide +kernel
theorem dX7_isChain_28 : decode cX7_isChain 28 = .ok (.iload_n 2, 1) := by decide +kernel
theorem dX7_isChain_29 : decode cX7_isChain 29 = .ok (.iconst 1, 1) := by decide +kernel
theorem dX7_isChain_30 : decode cX7_isChain 30 = .ok (.invokevirtual 101, 3) := by decide +kernel
theorem dX7_isChain_33 : decode cX7_isChain 33 = .ok (.ifCond .eq 7, 3) := by decide +kernel
theorem dX7_isChain_36 : decode cX7_isChain 36 = .ok (.iconst 1, 1) := by decide +kernel
theorem dX7_isChain_37 : decode cX7_isChain 37 = .ok (.goto 4, 3) := by decide +kernel
theorem dX7_isChain_40 : decode cX7_isChain 40 = .ok (.iconst 0, 1) := by decide +kernel
theorem dX7_isChain_41 : decode cX7_isChain 41 = .ok (.ireturn, 1) := by decide +kernel
theorem dX7_isApart_0 : decode cX7_isApart 0 = .ok (.aload_n 0, 1) := by decide +kernel
theorem dX7_isApart_1 : decode cX7_isApart 1 = .ok (.iload_n 1, 1) := by decide +kernel
theorem dX7_isApart_2 : decode cX7_isApart 2 = .ok (.invokestatic 43, 3) := by decide +kernel
theorem dX7_isApart_5 : decode cX7_isApart 5 = .ok (.iconst 1, 1) := by decide +kernel
theorem dX7_isApart_6 : decode cX7_isApart 6 = .ok (.invokevirtual 51, 3) := by decide +kernel
theorem dX7_isApart_9 : decode cX7_isApart 9 = .ok (.ifCond .eq 31, 3) := by decide +kernel
theorem dX7_isApart_12 : decode cX7_isApart 12 = .ok (.aload_n 0, 1) := by decide +kernel
theorem dX7_isApart_13 : decode cX7_isApart 13 = .ok (.aload_n 0, 1) := by decide +kernel
theorem dX7_isApart_14 : decode cX7_isApart 14 = .ok (.iload_n 1, 1) := by decide +kernel
theorem dX7_isApart_15 : decode cX7_isApart 15 = .ok (.iload_n 2, 1) := by decide +kernel
theorem dX7_isApart_16 : decode cX7_isApart 16 = .ok (.invokevirtual 72, 3) := by decide +kernel
theorem dX7_isApart_19 : decode cX7_isApart 19 = .ok (.iconst 2, 1) := by decide +kernel
theorem dX7_isApart_20 : decode cX7_isApart 20 = .ok (.invokevirtual 51, 3) := by decide +kernel
theorem dX7_isApart_23 : decode cX7_isApart 23 = .ok (.ifCond .eq 17, 3) := by decide +kernel
theorem dX7_isApart_26 : decode cX7_isApart 26 = .ok (.aload_n 0, 1) := by decide +kernel
theorem dX7_isApart_27 : decode cX7_isApart 27 = .ok (.iload_n 1, 1) := by decide +kernel
theorem dX7_isApart_28 : decode cX7_isApart 28 = .ok (.iload_n 2, 1) := by decide +kernel
theorem dX7_isApart_29 : decode cX7_isApart 29 = .ok (.iconst 0, 1) := by decide +kernel
theorem dX7_isApart_30 : decode cX7_isApart 30 = .ok (.invokevirtual 101, 3) := by decide +kernel
theorem dX7_isApart_33 : decode cX7_isApart 33 = .ok (.ifCond .eq 7, 3) := by decide +kernel
theorem dX7_isApart_36 : decode cX7_isApart 36 = .ok (.iconst 1, 1) := by decide +kernel
theorem dX7_isApart_37 : decode cX7_isApart 37 = .ok (.goto 4, 3) := by decide +kernel
theorem dX7_isApart_40 : decode cX7_isApart 40 = .ok (.iconst 0, 1) := by decide +kernel
theorem dX7_isApart_41 : decode cX7_isApart 41 = .ok (.ireturn, 1) := by decide +kernel
theorem dX7_levelOf_0 : decode cX7_levelOf 0 = .ok (.iconst 0, 1) := by decide +kernel
theorem dX7_levelOf_1 : decode cX7_levelOf 1 = .ok (.istore_n 3, 1) := by decide +kernel
theorem dX7_levelOf_2 : decode cX7_levelOf 2 = .ok (.iconst 0, 1) := by decide +kernel
theorem dX7_levelOf_3 : decode cX7_levelOf 3 = .ok (.istore 4, 2) := by decide +kernel
theorem dX7_levelOf_5 : decode cX7_levelOf 5 = .ok (.iload 4, 2) := by decide +kernel
theorem dX7_levelOf_7 : decode cX7_levelOf 7 = .ok (.aload_n 0, 1) := by decide +kernel
theorem dX7_levelOf_8 : decode cX7_levelOf 8 = .ok (.getfield 9, 3) := by decide +kernel
theorem dX7_levelOf_11 : decode cX7_levelOf 11 = .ok (.iload_n 1, 1) := by decide +kernel
theorem dX7_levelOf_12 : decode cX7_levelOf 12 = .ok (.iaload, 1) := by decide +kernel
theorem dX7_levelOf_13 : decode cX7_levelOf 13 = .ok (.if_icmp .ge 49, 3) := by decide +kernel
theorem dX7_levelOf_16 : decode cX7_levelOf 16 = .ok (.aload_n 0, 1) := by decide +kernel
theorem dX7_levelOf_17 : decode cX7_levelOf 17 = .ok (.getfield 20, 3) := by decide +kernel
theorem dX7_levelOf_20 : decode cX7_levelOf 20 = .ok (.iload_n 1, 1) := by decide +kernel
theorem dX7_levelOf_21 : decode cX7_levelOf 21 = .ok (.aaload, 1) := by decide +kernel
theorem dX7_levelOf_22 : decode cX7_levelOf 22 = .ok (.iload 4, 2) := by decide +kernel
theorem dX7_levelOf_24 : decode cX7_levelOf 24 = .ok (.aaload, 1) := by decide +kernel
theorem dX7_levelOf_25 : decode cX7_levelOf 25 = .ok (.iload_n 2, 1) := by decide +kernel
theorem dX7_levelOf_26 : decode cX7_levelOf 26 = .ok (.baload, 1) := by decide +kernel
theorem dX7_levelOf_27 : decode cX7_levelOf 27 = .ok (.ifCond .eq 13, 3) := by decide +kernel
theorem dX7_levelOf_30 : decode cX7_levelOf 30 = .ok (.aload_n 0, 1) := by decide +kernel
theorem dX7_levelOf_31 : decode cX7_levelOf 31 = .ok (.iload_n 1, 1) := by decide +kernel
theorem dX7_levelOf_32 : decode cX7_levelOf 32 = .ok (.iload 4, 2) := by decide +kernel
theorem dX7_levelOf_34 : decode cX7_levelOf 34 = .ok (.invokevirtual 105, 3) := by decide +kernel
theorem dX7_levelOf_37 : decode cX7_levelOf 37 = .ok (.goto 4, 3) := by decide +kernel
theorem dX7_levelOf_40 : decode cX7_levelOf 40 = .ok (.iconst 0, 1) := by decide +kernel
theorem dX7_levelOf_41 : decode cX7_levelOf 41 = .ok (.istore 5, 2) := by decide +kernel
theorem dX7_levelOf_43 : decode cX7_levelOf 43 = .ok (.iload 5, 2) := by decide +kernel
theorem dX7_levelOf_45 : decode cX7_levelOf 45 = .ok (.iload_n 3, 1) := by decide +kernel
theorem dX7_levelOf_46 : decode cX7_levelOf 46 = .ok (.if_icmp .le 8, 3) := by decide +kernel
theorem dX7_levelOf_49 : decode cX7_levelOf 49 = .ok (.iload 5, 2) := by decide +kernel
theorem dX7_levelOf_51 : decode cX7_levelOf 51 = .ok (.goto 4, 3) := by decide +kernel
theorem dX7_levelOf_54 : decode cX7_levelOf 54 = .ok (.iload_n 3, 1) := by decide +kernel
theorem dX7_levelOf_55 : decode cX7_levelOf 55 = .ok (.istore_n 3, 1) := by decide +kernel
theorem dX7_levelOf_56 : decode cX7_levelOf 56 = .ok (.iinc 4 1, 3) := by decide +kernel
theorem dX7_levelOf_59 : decode cX7_levelOf 59 = .ok (.goto (-54), 3) := by decide +kernel
theorem dX7_levelOf_62 : decode cX7_levelOf 62 = .ok (.iload_n 3, 1) := by decide +kernel
theorem dX7_levelOf_63 : decode cX7_levelOf 63 = .ok (.iconst 1, 1) := by decide +kernel
theorem dX7_levelOf_64 : decode cX7_levelOf 64 = .ok (.iadd, 1) := by decide +kernel
theorem dX7_levelOf_65 : decode cX7_levelOf 65 = .ok (.ireturn, 1) := by decide +kernel
theorem dX7_level_0 : decode cX7_level 0 = .ok (.aload_n 0, 1) := by decide +kernel
theorem dX7_level_1 : decode cX7_level 1 = .ok (.aload_n 0, 1) := by decide +kernel
theorem dX7_level_2 : decode cX7_level 2 = .ok (.iload_n 1, 1) := by decide +kernel
theorem dX7_level_3 : decode cX7_level 3 = .ok (.iload_n 2, 1) := by decide +kernel
theorem dX7_level_4 : decode cX7_level 4 = .ok (.invokevirtual 66, 3) := by decide +kernel
theorem dX7_level_7 : decode cX7_level 7 = .ok (.iconst 1, 1) := by decide +kernel
theorem dX7_level_8 : decode cX7_level 8 = .ok (.invokevirtual 51, 3) := by decide +kernel
theorem dX7_level_11 : decode cX7_level 11 = .ok (.ifCond .eq 12, 3) := by decide +kernel
theorem dX7_level_14 : decode cX7_level 14 = .ok (.aload_n 0, 1) := by decide +kernel
theorem dX7_level_15 : decode cX7_level 15 = .ok (.iload_n 1, 1) := by decide +kernel
theorem dX7_level_16 : decode cX7_level 16 = .ok (.iload_n 2, 1) := by decide +kernel
theorem dX7_level_17 : decode cX7_level 17 = .ok (.invokevirtual 105, 3) := by decide +kernel
theorem dX7_level_20 : decode cX7_level 20 = .ok (.goto 4, 3) := by decide +kernel
theorem dX7_level_23 : decode cX7_level 23 = .ok (.iconst 0, 1) := by decide +kernel
theorem dX7_level_24 : decode cX7_level 24 = .ok (.ireturn, 1) := by decide +kernel
theorem dX7_mostOf_0 : decode cX7_mostOf 0 = .ok (.iconst 0, 1) := by decide +kernel
theorem dX7_mostOf_1 : decode cX7_mostOf 1 = .ok (.istore_n 3, 1) := by decide +kernel
theorem dX7_mostOf_2 : decode cX7_mostOf 2 = .ok (.iconst 0, 1) := by decide +kernel
theorem dX7_mostOf_3 : decode cX7_mostOf 3 = .ok (.istore 4, 2) := by decide +kernel
theorem dX7_mostOf_5 : decode cX7_mostOf 5 = .ok (.iload 4, 2) := by decide +kernel
theorem dX7_mostOf_7 : decode cX7_mostOf 7 = .ok (.iconst 1, 1) := by decide +kernel
theorem dX7_mostOf_8 : decode cX7_mostOf 8 = .ok (.aload_n 0, 1) := by decide +kernel
theorem dX7_mostOf_9 : decode cX7_mostOf 9 = .ok (.getfield 9, 3) := by decide +kernel
theorem dX7_mostOf_12 : decode cX7_mostOf 12 = .ok (.iload_n 1, 1) := by decide +kernel
theorem dX7_mostOf_13 : decode cX7_mostOf 13 = .ok (.iaload, 1) := by decide +kernel
theorem dX7_mostOf_14 : decode cX7_mostOf 14 = .ok (.ishl, 1) := by decide +kernel
theorem dX7_mostOf_15 : decode cX7_mostOf 15 = .ok (.if_icmp .ge 40, 3) := by decide +kernel
theorem dX7_mostOf_18 : decode cX7_mostOf 18 = .ok (.iload 4, 2) := by decide +kernel
theorem dX7_mostOf_20 : decode cX7_mostOf 20 = .ok (.invokestatic 108, 3) := by decide +kernel
theorem dX7_mostOf_23 : decode cX7_mostOf 23 = .ok (.istore 5, 2) := by decide +kernel
theorem dX7_mostOf_25 : decode cX7_mostOf 25 = .ok (.iload 5, 2) := by decide +kernel
theorem dX7_mostOf_27 : decode cX7_mostOf 27 = .ok (.iload_n 3, 1) := by decide +kernel
theorem dX7_mostOf_28 : decode cX7_mostOf 28 = .ok (.if_icmp .le 19, 3) := by decide +kernel
theorem dX7_mostOf_31 : decode cX7_mostOf 31 = .ok (.aload_n 0, 1) := by decide +kernel
theorem dX7_mostOf_32 : decode cX7_mostOf 32 = .ok (.iload_n 1, 1) := by decide +kernel
theorem dX7_mostOf_33 : decode cX7_mostOf 33 = .ok (.iload 4, 2) := by decide +kernel
theorem dX7_mostOf_35 : decode cX7_mostOf 35 = .ok (.iload_n 2, 1) := by decide +kernel
theorem dX7_mostOf_36 : decode cX7_mostOf 36 = .ok (.invokevirtual 101, 3) := by decide +kernel
theorem dX7_mostOf_39 : decode cX7_mostOf 39 = .ok (.ifCond .eq 8, 3) := by decide +kernel
theorem dX7_mostOf_42 : decode cX7_mostOf 42 = .ok (.iload 5, 2) := by decide +kernel
theorem dX7_mostOf_44 : decode cX7_mostOf 44 = .ok (.goto 4, 3) := by decide +kernel
theorem dX7_mostOf_47 : decode cX7_mostOf 47 = .ok (.iload_n 3, 1) := by decide +kernel
theorem dX7_mostOf_48 : decode cX7_mostOf 48 = .ok (.istore_n 3, 1) := by decide +kernel
theorem dX7_mostOf_49 : decode cX7_mostOf 49 = .ok (.iinc 4 1, 3) := by decide +kernel
theorem dX7_mostOf_52 : decode cX7_mostOf 52 = .ok (.goto (-47), 3) := by decide +kernel
theorem dX7_mostOf_55 : decode cX7_mostOf 55 = .ok (.iload_n 3, 1) := by decide +kernel
theorem dX7_mostOf_56 : decode cX7_mostOf 56 = .ok (.ireturn, 1) := by decide +kernel
theorem dX7_longest_0 : decode cX7_longest 0 = .ok (.aload_n 0, 1) := by decide +kernel
theorem dX7_longest_1 : decode cX7_longest 1 = .ok (.iload_n 1, 1) := by decide +kernel
theorem dX7_longest_2 : decode cX7_longest 2 = .ok (.invokestatic 43, 3) := by decide +kernel
theorem dX7_longest_5 : decode cX7_longest 5 = .ok (.iconst 1, 1) := by decide +kernel
theorem dX7_longest_6 : decode cX7_longest 6 = .ok (.invokevirtual 51, 3) := by decide +kernel
theorem dX7_longest_9 : decode cX7_longest 9 = .ok (.ifCond .eq 12, 3) := by decide +kernel
theorem dX7_longest_12 : decode cX7_longest 12 = .ok (.aload_n 0, 1) := by decide +kernel
theorem dX7_longest_13 : decode cX7_longest 13 = .ok (.iload_n 1, 1) := by decide +kernel
theorem dX7_longest_14 : decode cX7_longest 14 = .ok (.iconst 1, 1) := by decide +kernel
theorem dX7_longest_15 : decode cX7_longest 15 = .ok (.invokevirtual 111, 3) := by decide +kernel
theorem dX7_longest_18 : decode cX7_longest 18 = .ok (.goto 4, 3) := by decide +kernel
theorem dX7_longest_21 : decode cX7_longest 21 = .ok (.iconst 0, 1) := by decide +kernel
theorem dX7_longest_22 : decode cX7_longest 22 = .ok (.ireturn, 1) := by decide +kernel
theorem dX7_widest_0 : decode cX7_widest 0 = .ok (.aload_n 0, 1) := by decide +kernel
theorem dX7_widest_1 : decode cX7_widest 1 = .ok (.iload_n 1, 1) := by decide +kernel
theorem dX7_widest_2 : decode cX7_widest 2 = .ok (.invokestatic 43, 3) := by decide +kernel
theorem dX7_widest_5 : decode cX7_widest 5 = .ok (.iconst 1, 1) := by decide +kernel
theorem dX7_widest_6 : decode cX7_widest 6 = .ok (.invokevirtual 51, 3) := by decide +kernel
theorem dX7_widest_9 : decode cX7_widest 9 = .ok (.ifCond .eq 12, 3) := by decide +kernel
theorem dX7_widest_12 : decode cX7_widest 12 = .ok (.aload_n 0, 1) := by decide +kernel
theorem dX7_widest_13 : decode cX7_widest 13 = .ok (.iload_n 1, 1) := by decide +kernel
theorem dX7_widest_14 : decode cX7_widest 14 = .ok (.iconst 0, 1) := by decide +kernel
theorem dX7_widest_15 : decode cX7_widest 15 = .ok (.invokevirtual 111, 3) := by decide +kernel
theorem dX7_widest_18 : decode cX7_widest 18 = .ok (.goto 4, 3) := by decide +kernel
theorem dX7_widest_21 : decode cX7_widest 21 = .ok (.iconst 0, 1) := by decide +kernel
theorem dX7_widest_22 : decode cX7_widest 22 = .ok (.ireturn, 1) := by decide +kernel
theorem dX7_fewestOf_0 : decode cX7_fewestOf 0 = .ok (.aload_n 0, 1) := by decide +kernel
theorem dX7_fewestOf_1 : decode cX7_fewestOf 1 = .ok (.getfield 26, 3) := by decide +kernel
theorem dX7_fewestOf_4 : decode cX7_fewestOf 4 = .ok (.iconst 0, 1) := by decide +kernel
theorem dX7_fewestOf_5 : decode cX7_fewestOf 5 = .ok (.iconst 0, 1) := by decide +kernel
theorem dX7_fewestOf_6 : decode cX7_fewestOf 6 = .ok (.iastore, 1) := by decide +kernel
theorem dX7_fewestOf_7 : decode cX7_fewestOf 7 = .ok (.iconst 1, 1) := by decide +kernel
theorem dX7_fewestOf_8 : decode cX7_fewestOf 8 = .ok (.istore_n 3, 1) := by decide +kernel
theorem dX7_fewestOf_9 : decode cX7_fewestOf 9 = .ok (.iload_n 3, 1) := by decide +kernel
theorem dX7_fewestOf_10 : decode cX7_fewestOf 10 = .ok (.iconst 1, 1) := by decide +kernel
theorem dX7_fewestOf_11 : decode cX7_fewestOf 11 = .ok (.aload_n 0, 1) := by decide +kernel
theorem dX7_fewestOf_12 : decode cX7_fewestOf 12 = .ok (.getfield 9, 3) := by decide +kernel
theorem dX7_fewestOf_15 : decode cX7_fewestOf 15 = .ok (.iload_n 1, 1) := by decide +kernel
theorem dX7_fewestOf_16 : decode cX7_fewestOf 16 = .ok (.iaload, 1) := by decide +kernel
theorem dX7_fewestOf_17 : decode cX7_fewestOf 17 = .ok (.ishl, 1) := by decide +kernel
theorem dX7_fewestOf_18 : decode cX7_fewestOf 18 = .ok (.if_icmp .ge 88, 3) := by decide +kernel
theorem dX7_fewestOf_21 : decode cX7_fewestOf 21 = .ok (.aload_n 0, 1) := by decide +kernel
theorem dX7_fewestOf_22 : decode cX7_fewestOf 22 = .ok (.getfield 26, 3) := by decide +kernel
theorem dX7_fewestOf_25 : decode cX7_fewestOf 25 = .ok (.iload_n 3, 1) := by decide +kernel
theorem dX7_fewestOf_26 : decode cX7_fewestOf 26 = .ok (.bipush 9, 2) := by decide +kernel
theorem dX7_fewestOf_28 : decode cX7_fewestOf 28 = .ok (.iastore, 1) := by decide +kernel
theorem dX7_fewestOf_29 : decode cX7_fewestOf 29 = .ok (.iload_n 3, 1) := by decide +kernel
theorem dX7_fewestOf_30 : decode cX7_fewestOf 30 = .ok (.istore 4, 2) := by decide +kernel
theorem dX7_fewestOf_32 : decode cX7_fewestOf 32 = .ok (.iload 4, 2) := by decide +kernel
theorem dX7_fewestOf_34 : decode cX7_fewestOf 34 = .ok (.ifCond .le 66, 3) := by decide +kernel
theorem dX7_fewestOf_37 : decode cX7_fewestOf 37 = .ok (.aload_n 0, 1) := by decide +kernel
theorem dX7_fewestOf_38 : decode cX7_fewestOf 38 = .ok (.getfield 26, 3) := by decide +kernel
theorem dX7_fewestOf_41 : decode cX7_fewestOf 41 = .ok (.iload_n 3, 1) := by decide +kernel
theorem dX7_fewestOf_42 : decode cX7_fewestOf 42 = .ok (.iload 4, 2) := by decide +kernel
theorem dX7_fewestOf_44 : decode cX7_fewestOf 44 = .ok (.isub, 1) := by decide +kernel
theorem dX7_fewestOf_45 : decode cX7_fewestOf 45 = .ok (.iaload, 1) := by decide +kernel
theorem dX7_fewestOf_46 : decode cX7_fewestOf 46 = .ok (.iconst 1, 1) := by decide +kernel
theorem dX7_fewestOf_47 : decode cX7_fewestOf 47 = .ok (.iadd, 1) := by decide +kernel
theorem dX7_fewestOf_48 : decode cX7_fewestOf 48 = .ok (.istore 5, 2) := by decide +kernel
theorem dX7_fewestOf_50 : decode cX7_fewestOf 50 = .ok (.aload_n 0, 1) := by decide +kernel
theorem dX7_fewestOf_51 : decode cX7_fewestOf 51 = .ok (.getfield 26, 3) := by decide +kernel
theorem dX7_fewestOf_54 : decode cX7_fewestOf 54 = .ok (.iload_n 3, 1) := by decide +kernel
theorem dX7_fewestOf_55 : decode cX7_fewestOf 55 = .ok (.iload 5, 2) := by decide +kernel
theorem dX7_fewestOf_57 : decode cX7_fewestOf 57 = .ok (.aload_n 0, 1) := by decide +kernel
theorem dX7_fewestOf_58 : decode cX7_fewestOf 58 = .ok (.getfield 26, 3) := by decide +kernel
theorem dX7_fewestOf_61 : decode cX7_fewestOf 61 = .ok (.iload_n 3, 1) := by decide +kernel
theorem dX7_fewestOf_62 : decode cX7_fewestOf 62 = .ok (.iaload, 1) := by decide +kernel
theorem dX7_fewestOf_63 : decode cX7_fewestOf 63 = .ok (.if_icmp .ge 19, 3) := by decide +kernel
theorem dX7_fewestOf_66 : decode cX7_fewestOf 66 = .ok (.aload_n 0, 1) := by decide +kernel
theorem dX7_fewestOf_67 : decode cX7_fewestOf 67 = .ok (.iload_n 1, 1) := by decide +kernel
theorem dX7_fewestOf_68 : decode cX7_fewestOf 68 = .ok (.iload 4, 2) := by decide +kernel
theorem dX7_fewestOf_70 : decode cX7_fewestOf 70 = .ok (.iload_n 2, 1) := by decide +kernel
theorem dX7_fewestOf_71 : decode cX7_fewestOf 71 = .ok (.invokevirtual 101, 3) := by decide +kernel
theorem dX7_fewestOf_74 : decode cX7_fewestOf 74 = .ok (.ifCond .eq 8, 3) := by decide +kernel
theorem dX7_fewestOf_77 : decode cX7_fewestOf 77 = .ok (.iload 5, 2) := by decide +kernel
theorem dX7_fewestOf_79 : decode cX7_fewestOf 79 = .ok (.goto 9, 3) := by decide +kernel
theorem dX7_fewestOf_82 : decode cX7_fewestOf 82 = .ok (.aload_n 0, 1) := by decide +kernel
theorem dX7_fewestOf_83 : decode cX7_fewestOf 83 = .ok (.getfield 26, 3) := by decide +kernel
theorem dX7_fewestOf_86 : decode cX7_fewestOf 86 = .ok (.iload_n 3, 1) := by decide +kernel
theorem dX7_fewestOf_87 : decode cX7_fewestOf 87 = .ok (.iaload, 1) := by decide +kernel
theorem dX7_fewestOf_88 : decode cX7_fewestOf 88 = .ok (.iastore, 1) := by decide +kernel
theorem dX7_fewestOf_89 : decode cX7_fewestOf 89 = .ok (.iload 4, 2) := by decide +kernel
theorem dX7_fewestOf_91 : decode cX7_fewestOf 91 = .ok (.iconst 1, 1) := by decide +kernel
theorem dX7_fewestOf_92 : decode cX7_fewestOf 92 = .ok (.isub, 1) := by decide +kernel
theorem dX7_fewestOf_93 : decode cX7_fewestOf 93 = .ok (.iload_n 3, 1) := by decide +kernel
theorem dX7_fewestOf_94 : decode cX7_fewestOf 94 = .ok (.iand, 1) := by decide +kernel
theorem dX7_fewestOf_95 : decode cX7_fewestOf 95 = .ok (.istore 4, 2) := by decide +kernel
theorem dX7_fewestOf_97 : decode cX7_fewestOf 97 = .ok (.goto (-65), 3) := by decide +kernel
theorem dX7_fewestOf_100 : decode cX7_fewestOf 100 = .ok (.iinc 3 1, 3) := by decide +kernel
theorem dX7_fewestOf_103 : decode cX7_fewestOf 103 = .ok (.goto (-94), 3) := by decide +kernel
theorem dX7_fewestOf_106 : decode cX7_fewestOf 106 = .ok (.aload_n 0, 1) := by decide +kernel
theorem dX7_fewestOf_107 : decode cX7_fewestOf 107 = .ok (.getfield 26, 3) := by decide +kernel
theorem dX7_fewestOf_110 : decode cX7_fewestOf 110 = .ok (.iconst 1, 1) := by decide +kernel
theorem dX7_fewestOf_111 : decode cX7_fewestOf 111 = .ok (.aload_n 0, 1) := by decide +kernel
theorem dX7_fewestOf_112 : decode cX7_fewestOf 112 = .ok (.getfield 9, 3) := by decide +kernel
theorem dX7_fewestOf_115 : decode cX7_fewestOf 115 = .ok (.iload_n 1, 1) := by decide +kernel
theorem dX7_fewestOf_116 : decode cX7_fewestOf 116 = .ok (.iaload, 1) := by decide +kernel
theorem dX7_fewestOf_117 : decode cX7_fewestOf 117 = .ok (.ishl, 1) := by decide +kernel
theorem dX7_fewestOf_118 : decode cX7_fewestOf 118 = .ok (.iconst 1, 1) := by decide +kernel
theorem dX7_fewestOf_119 : decode cX7_fewestOf 119 = .ok (.isub, 1) := by decide +kernel
theorem dX7_fewestOf_120 : decode cX7_fewestOf 120 = .ok (.iaload, 1) := by decide +kernel
theorem dX7_fewestOf_121 : decode cX7_fewestOf 121 = .ok (.ireturn, 1) := by decide +kernel
theorem dX7_fewestChains_0 : decode cX7_fewestChains 0 = .ok (.aload_n 0, 1) := by decide +kernel
theorem dX7_fewestChains_1 : decode cX7_fewestChains 1 = .ok (.iload_n 1, 1) := by decide +kernel
theorem dX7_fewestChains_2 : decode cX7_fewestChains 2 = .ok (.invokestatic 43, 3) := by decide +kernel
theorem dX7_fewestChains_5 : decode cX7_fewestChains 5 = .ok (.iconst 1, 1) := by decide +kernel
theorem dX7_fewestChains_6 : decode cX7_fewestChains 6 = .ok (.invokevirtual 51, 3) := by decide +kernel
theorem dX7_fewestChains_9 : decode cX7_fewestChains 9 = .ok (.ifCond .eq 12, 3) := by decide +kernel
theorem dX7_fewestChains_12 : decode cX7_fewestChains 12 = .ok (.aload_n 0, 1) := by decide +kernel
theorem dX7_fewestChains_13 : decode cX7_fewestChains 13 = .ok (.iload_n 1, 1) := by decide +kernel
theorem dX7_fewestChains_14 : decode cX7_fewestChains 14 = .ok (.iconst 1, 1) := by decide +kernel
theorem dX7_fewestChains_15 : decode cX7_fewestChains 15 = .ok (.invokevirtual 115, 3) := by decide +kernel
theorem dX7_fewestChains_18 : decode cX7_fewestChains 18 = .ok (.goto 4, 3) := by decide +kernel
theorem dX7_fewestChains_21 : decode cX7_fewestChains 21 = .ok (.iconst 0, 1) := by decide +kernel
theorem dX7_fewestChains_22 : decode cX7_fewestChains 22 = .ok (.ireturn, 1) := by decide +kernel
theorem dX7_fewestAparts_0 : decode cX7_fewestAparts 0 = .ok (.aload_n 0, 1) := by decide +kernel
theorem dX7_fewestAparts_1 : decode cX7_fewestAparts 1 = .ok (.iload_n 1, 1) := by decide +kernel
theorem dX7_fewestAparts_2 : decode cX7_fewestAparts 2 = .ok (.invokestatic 43, 3) := by decide +kernel
theorem dX7_fewestAparts_5 : decode cX7_fewestAparts 5 = .ok (.iconst 1, 1) := by decide +kernel
theorem dX7_fewestAparts_6 : decode cX7_fewestAparts 6 = .ok (.invokevirtual 51, 3) := by decide +kernel
theorem dX7_fewestAparts_9 : decode cX7_fewestAparts 9 = .ok (.ifCond .eq 12, 3) := by decide +kernel
theorem dX7_fewestAparts_12 : decode cX7_fewestAparts 12 = .ok (.aload_n 0, 1) := by decide +kernel
theorem dX7_fewestAparts_13 : decode cX7_fewestAparts 13 = .ok (.iload_n 1, 1) := by decide +kernel
theorem dX7_fewestAparts_14 : decode cX7_fewestAparts 14 = .ok (.iconst 0, 1) := by decide +kernel
theorem dX7_fewestAparts_15 : decode cX7_fewestAparts 15 = .ok (.invokevirtual 115, 3) := by decide +kernel
theorem dX7_fewestAparts_18 : decode cX7_fewestAparts 18 = .ok (.goto 4, 3) := by decide +kernel
theorem dX7_fewestAparts_21 : decode cX7_fewestAparts 21 = .ok (.iconst 0, 1) := by decide +kernel
theorem dX7_fewestAparts_22 : decode cX7_fewestAparts 22 = .ok (.ireturn, 1) := by decide +kernel
theorem dX7_aparts_0 : decode cX7_aparts 0 = .ok (.aload_n 0, 1) := by decide +kernel
theorem dX7_aparts_1 : decode cX7_aparts 1 = .ok (.iload_n 1, 1) := by decide +kernel
theorem dX7_aparts_2 : decode cX7_aparts 2 = .ok (.invokestatic 43, 3) := by decide +kernel
theorem dX7_aparts_5 : decode cX7_aparts 5 = .ok (.iconst 1, 1) := by decide +kernel
theorem dX7_aparts_6 : decode cX7_aparts 6 = .ok (.invokevirtual 51, 3) := by decide +kernel
theorem dX7_aparts_9 : decode cX7_aparts 9 = .ok (.ifCond .ne 5, 3) := by decide +kernel
theorem dX7_aparts_12 : decode cX7_aparts 12 = .ok (.iconst 0, 1) := by decide +kernel
theorem dX7_aparts_13 : decode cX7_aparts 13 = .ok (.ireturn, 1) := by decide +kernel
theorem dX7_aparts_14 : decode cX7_aparts 14 = .ok (.iconst 0, 1) := by decide +kernel
theorem dX7_aparts_15 : decode cX7_aparts 15 = .ok (.istore_n 2, 1) := by decide +kernel
theorem dX7_aparts_16 : decode cX7_aparts 16 = .ok (.iconst 0, 1) := by decide +kernel
theorem dX7_aparts_17 : decode cX7_aparts 17 = .ok (.istore_n 3, 1) := by decide +kernel
theorem dX7_aparts_18 : decode cX7_aparts 18 = .ok (.iload_n 3, 1) := by decide +kernel
theorem dX7_aparts_19 : decode cX7_aparts 19 = .ok (.iconst 1, 1) := by decide +kernel
theorem dX7_aparts_20 : decode cX7_aparts 20 = .ok (.aload_n 0, 1) := by decide +kernel
theorem dX7_aparts_21 : decode cX7_aparts 21 = .ok (.getfield 9, 3) := by decide +kernel
theorem dX7_aparts_24 : decode cX7_aparts 24 = .ok (.iload_n 1, 1) := by decide +kernel
theorem dX7_aparts_25 : decode cX7_aparts 25 = .ok (.iaload, 1) := by decide +kernel
theorem dX7_aparts_26 : decode cX7_aparts 26 = .ok (.ishl, 1) := by decide +kernel
theorem dX7_aparts_27 : decode cX7_aparts 27 = .ok (.if_icmp .ge 27, 3) := by decide +kernel
theorem dX7_aparts_30 : decode cX7_aparts 30 = .ok (.iload_n 2, 1) := by decide +kernel
theorem dX7_aparts_31 : decode cX7_aparts 31 = .ok (.aload_n 0, 1) := by decide +kernel
theorem dX7_aparts_32 : decode cX7_aparts 32 = .ok (.iload_n 1, 1) := by decide +kernel
theorem dX7_aparts_33 : decode cX7_aparts 33 = .ok (.iload_n 3, 1) := by decide +kernel
theorem dX7_aparts_34 : decode cX7_aparts 34 = .ok (.iconst 0, 1) := by decide +kernel
theorem dX7_aparts_35 : decode cX7_aparts 35 = .ok (.invokevirtual 101, 3) := by decide +kernel
theorem dX7_aparts_38 : decode cX7_aparts 38 = .ok (.ifCond .eq 7, 3) := by decide +kernel
theorem dX7_aparts_41 : decode cX7_aparts 41 = .ok (.iconst 1, 1) := by decide +kernel
theorem dX7_aparts_42 : decode cX7_aparts 42 = .ok (.goto 4, 3) := by decide +kernel
theorem dX7_aparts_45 : decode cX7_aparts 45 = .ok (.iconst 0, 1) := by decide +kernel
theorem dX7_aparts_46 : decode cX7_aparts 46 = .ok (.iadd, 1) := by decide +kernel
theorem dX7_aparts_47 : decode cX7_aparts 47 = .ok (.istore_n 2, 1) := by decide +kernel
theorem dX7_aparts_48 : decode cX7_aparts 48 = .ok (.iinc 3 1, 3) := by decide +kernel
theorem dX7_aparts_51 : decode cX7_aparts 51 = .ok (.goto (-33), 3) := by decide +kernel
theorem dX7_aparts_54 : decode cX7_aparts 54 = .ok (.iload_n 2, 1) := by decide +kernel
theorem dX7_aparts_55 : decode cX7_aparts 55 = .ok (.ireturn, 1) := by decide +kernel
theorem dX7_closure_0 : decode cX7_closure 0 = .ok (.iload_n 2, 1) := by decide +kernel
theorem dX7_closure_1 : decode cX7_closure 1 = .ok (.istore_n 3, 1) := by decide +kernel
theorem dX7_closure_2 : decode cX7_closure 2 = .ok (.iconst 0, 1) := by decide +kernel
theorem dX7_closure_3 : decode cX7_closure 3 = .ok (.istore 4, 2) := by decide +kernel
theorem dX7_closure_5 : decode cX7_closure 5 = .ok (.iload 4, 2) := by decide +kernel
theorem dX7_closure_7 : decode cX7_closure 7 = .ok (.aload_n 0, 1) := by decide +kernel
theorem dX7_closure_8 : decode cX7_closure 8 = .ok (.getfield 9, 3) := by decide +kernel
theorem dX7_closure_11 : decode cX7_closure 11 = .ok (.iload_n 1, 1) := by decide +kernel
theorem dX7_closure_12 : decode cX7_closure 12 = .ok (.iaload, 1) := by decide +kernel
theorem dX7_closure_13 : decode cX7_closure 13 = .ok (.if_icmp .ge 32, 3) := by decide +kernel
theorem dX7_closure_16 : decode cX7_closure 16 = .ok (.iload_n 3, 1) := by decide +kernel
theorem dX7_closure_17 : decode cX7_closure 17 = .ok (.iload_n 2, 1) := by decide +kernel
theorem dX7_closure_18 : decode cX7_closure 18 = .ok (.iload 4, 2) := by decide +kernel
theorem dX7_closure_20 : decode cX7_closure 20 = .ok (.invokestatic 47, 3) := by decide +kernel
theorem dX7_closure_23 : decode cX7_closure 23 = .ok (.ifCond .eq 13, 3) := by decide +kernel
theorem dX7_closure_26 : decode cX7_closure 26 = .ok (.aload_n 0, 1) := by decide +kernel
theorem dX7_closure_27 : decode cX7_closure 27 = .ok (.iload_n 1, 1) := by decide +kernel
theorem dX7_closure_28 : decode cX7_closure 28 = .ok (.iload 4, 2) := by decide +kernel
theorem dX7_closure_30 : decode cX7_closure 30 = .ok (.invokevirtual 95, 3) := by decide +kernel
theorem dX7_closure_33 : decode cX7_closure 33 = .ok (.goto 4, 3) := by decide +kernel
theorem dX7_closure_36 : decode cX7_closure 36 = .ok (.iconst 0, 1) := by decide +kernel
theorem dX7_closure_37 : decode cX7_closure 37 = .ok (.ior, 1) := by decide +kernel
theorem dX7_closure_38 : decode cX7_closure 38 = .ok (.istore_n 3, 1) := by decide +kernel
theorem dX7_closure_39 : decode cX7_closure 39 = .ok (.iinc 4 1, 3) := by decide +kernel
theorem dX7_closure_42 : decode cX7_closure 42 = .ok (.goto (-37), 3) := by decide +kernel
theorem dX7_closure_45 : decode cX7_closure 45 = .ok (.iload_n 3, 1) := by decide +kernel
theorem dX7_closure_46 : decode cX7_closure 46 = .ok (.ireturn, 1) := by decide +kernel
theorem dX7_isClosed_0 : decode cX7_isClosed 0 = .ok (.aload_n 0, 1) := by decide +kernel
theorem dX7_isClosed_1 : decode cX7_isClosed 1 = .ok (.iload_n 1, 1) := by decide +kernel
theorem dX7_isClosed_2 : decode cX7_isClosed 2 = .ok (.iload_n 2, 1) := by decide +kernel
theorem dX7_isClosed_3 : decode cX7_isClosed 3 = .ok (.invokevirtual 118, 3) := by decide +kernel
theorem dX7_isClosed_6 : decode cX7_isClosed 6 = .ok (.iload_n 2, 1) := by decide +kernel
theorem dX7_isClosed_7 : decode cX7_isClosed 7 = .ok (.if_icmp .ne 7, 3) := by decide +kernel
theorem dX7_isClosed_10 : decode cX7_isClosed 10 = .ok (.iconst 1, 1) := by decide +kernel
theorem dX7_isClosed_11 : decode cX7_isClosed 11 = .ok (.goto 4, 3) := by decide +kernel
theorem dX7_isClosed_14 : decode cX7_isClosed 14 = .ok (.iconst 0, 1) := by decide +kernel
theorem dX7_isClosed_15 : decode cX7_isClosed 15 = .ok (.ireturn, 1) := by decide +kernel
theorem dX7_isAhead_0 : decode cX7_isAhead 0 = .ok (.iload_n 0, 1) := by decide +kernel
theorem dX7_isAhead_1 : decode cX7_isAhead 1 = .ok (.invokestatic 108, 3) := by decide +kernel
theorem dX7_isAhead_4 : decode cX7_isAhead 4 = .ok (.istore_n 2, 1) := by decide +kernel
theorem dX7_isAhead_5 : decode cX7_isAhead 5 = .ok (.iload_n 1, 1) := by decide +kernel
theorem dX7_isAhead_6 : decode cX7_isAhead 6 = .ok (.invokestatic 108, 3) := by decide +kernel
theorem dX7_isAhead_9 : decode cX7_isAhead 9 = .ok (.istore_n 3, 1) := by decide +kernel
theorem dX7_isAhead_10 : decode cX7_isAhead 10 = .ok (.iload_n 2, 1) := by decide +kernel
theorem dX7_isAhead_11 : decode cX7_isAhead 11 = .ok (.iload_n 3, 1) := by decide +kernel
theorem dX7_isAhead_12 : decode cX7_isAhead 12 = .ok (.if_icmp .lt 13, 3) := by decide +kernel
theorem dX7_isAhead_15 : decode cX7_isAhead 15 = .ok (.iload_n 2, 1) := by decide +kernel
theorem dX7_isAhead_16 : decode cX7_isAhead 16 = .ok (.iload_n 3, 1) := by decide +kernel
theorem dX7_isAhead_17 : decode cX7_isAhead 17 = .ok (.if_icmp .ne 12, 3) := by decide +kernel
theorem dX7_isAhead_20 : decode cX7_isAhead 20 = .ok (.iload_n 0, 1) := by decide +kernel
theorem dX7_isAhead_21 : decode cX7_isAhead 21 = .ok (.iload_n 1, 1) := by decide +kernel
theorem dX7_isAhead_22 : decode cX7_isAhead 22 = .ok (.if_icmp .ge 7, 3) := by decide +kernel
theorem dX7_isAhead_25 : decode cX7_isAhead 25 = .ok (.iconst 1, 1) := by decide +kernel
theorem dX7_isAhead_26 : decode cX7_isAhead 26 = .ok (.goto 4, 3) := by decide +kernel
theorem dX7_isAhead_29 : decode cX7_isAhead 29 = .ok (.iconst 0, 1) := by decide +kernel
theorem dX7_isAhead_30 : decode cX7_isAhead 30 = .ok (.ireturn, 1) := by decide +kernel
theorem dX7_placeIn_0 : decode cX7_placeIn 0 = .ok (.iconst 0, 1) := by decide +kernel
theorem dX7_placeIn_1 : decode cX7_placeIn 1 = .ok (.istore_n 3, 1) := by decide +kernel
theorem dX7_placeIn_2 : decode cX7_placeIn 2 = .ok (.iconst 0, 1) := by decide +kernel
theorem dX7_placeIn_3 : decode cX7_placeIn 3 = .ok (.istore 4, 2) := by decide +kernel
theorem dX7_placeIn_5 : decode cX7_placeIn 5 = .ok (.iload 4, 2) := by decide +kernel
theorem dX7_placeIn_7 : decode cX7_placeIn 7 = .ok (.iconst 1, 1) := by decide +kernel
theorem dX7_placeIn_8 : decode cX7_placeIn 8 = .ok (.aload_n 0, 1) := by decide +kernel
theorem dX7_placeIn_9 : decode cX7_placeIn 9 = .ok (.getfield 9, 3) := by decide +kernel
theorem dX7_placeIn_12 : decode cX7_placeIn 12 = .ok (.iload_n 1, 1) := by decide +kernel
theorem dX7_placeIn_13 : decode cX7_placeIn 13 = .ok (.iaload, 1) := by decide +kernel
theorem dX7_placeIn_14 : decode cX7_placeIn 14 = .ok (.ishl, 1) := by decide +kernel
theorem dX7_placeIn_15 : decode cX7_placeIn 15 = .ok (.if_icmp .ge 36, 3) := by decide +kernel
theorem dX7_placeIn_18 : decode cX7_placeIn 18 = .ok (.iload_n 3, 1) := by decide +kernel
theorem dX7_placeIn_19 : decode cX7_placeIn 19 = .ok (.iload 4, 2) := by decide +kernel
theorem dX7_placeIn_21 : decode cX7_placeIn 21 = .ok (.iload_n 2, 1) := by decide +kernel
theorem dX7_placeIn_22 : decode cX7_placeIn 22 = .ok (.invokestatic 121, 3) := by decide +kernel
theorem dX7_placeIn_25 : decode cX7_placeIn 25 = .ok (.ifCond .eq 17, 3) := by decide +kernel
theorem dX7_placeIn_28 : decode cX7_placeIn 28 = .ok (.aload_n 0, 1) := by decide +kernel
theorem dX7_placeIn_29 : decode cX7_placeIn 29 = .ok (.iload_n 1, 1) := by decide +kernel
theorem dX7_placeIn_30 : decode cX7_placeIn 30 = .ok (.iload 4, 2) := by decide +kernel
theorem dX7_placeIn_32 : decode cX7_placeIn 32 = .ok (.invokevirtual 124, 3) := by decide +kernel
theorem dX7_placeIn_35 : decode cX7_placeIn 35 = .ok (.ifCond .eq 7, 3) := by decide +kernel
theorem dX7_placeIn_38 : decode cX7_placeIn 38 = .ok (.iconst 1, 1) := by decide +kernel
theorem dX7_placeIn_39 : decode cX7_placeIn 39 = .ok (.goto 4, 3) := by decide +kernel
theorem dX7_placeIn_42 : decode cX7_placeIn 42 = .ok (.iconst 0, 1) := by decide +kernel
theorem dX7_placeIn_43 : decode cX7_placeIn 43 = .ok (.iadd, 1) := by decide +kernel
theorem dX7_placeIn_44 : decode cX7_placeIn 44 = .ok (.istore_n 3, 1) := by decide +kernel
theorem dX7_placeIn_45 : decode cX7_placeIn 45 = .ok (.iinc 4 1, 3) := by decide +kernel
theorem dX7_placeIn_48 : decode cX7_placeIn 48 = .ok (.goto (-43), 3) := by decide +kernel
theorem dX7_placeIn_51 : decode cX7_placeIn 51 = .ok (.iload_n 3, 1) := by decide +kernel
theorem dX7_placeIn_52 : decode cX7_placeIn 52 = .ok (.ireturn, 1) := by decide +kernel
theorem dX7_manyOf_0 : decode cX7_manyOf 0 = .ok (.iconst 0, 1) := by decide +kernel
theorem dX7_manyOf_1 : decode cX7_manyOf 1 = .ok (.istore_n 3, 1) := by decide +kernel
theorem dX7_manyOf_2 : decode cX7_manyOf 2 = .ok (.iconst 0, 1) := by decide +kernel
theorem dX7_manyOf_3 : decode cX7_manyOf 3 = .ok (.istore 4, 2) := by decide +kernel
theorem dX7_manyOf_5 : decode cX7_manyOf 5 = .ok (.iload 4, 2) := by decide +kernel
theorem dX7_manyOf_7 : decode cX7_manyOf 7 = .ok (.iconst 1, 1) := by decide +kernel
theorem dX7_manyOf_8 : decode cX7_manyOf 8 = .ok (.aload_n 0, 1) := by decide +kernel
theorem dX7_manyOf_9 : decode cX7_manyOf 9 = .ok (.getfield 9, 3) := by decide +kernel
theorem dX7_manyOf_12 : decode cX7_manyOf 12 = .ok (.iload_n 1, 1) := by decide +kernel
theorem dX7_manyOf_13 : decode cX7_manyOf 13 = .ok (.iaload, 1) := by decide +kernel
theorem dX7_manyOf_14 : decode cX7_manyOf 14 = .ok (.ishl, 1) := by decide +kernel
theorem dX7_manyOf_15 : decode cX7_manyOf 15 = .ok (.if_icmp .ge 41, 3) := by decide +kernel
theorem dX7_manyOf_18 : decode cX7_manyOf 18 = .ok (.iload_n 3, 1) := by decide +kernel
theorem dX7_manyOf_19 : decode cX7_manyOf 19 = .ok (.iload_n 2, 1) := by decide +kernel
theorem dX7_manyOf_20 : decode cX7_manyOf 20 = .ok (.iconst (-1), 1) := by decide +kernel
theorem dX7_manyOf_21 : decode cX7_manyOf 21 = .ok (.if_icmp .eq 12, 3) := by decide +kernel
theorem dX7_manyOf_24 : decode cX7_manyOf 24 = .ok (.iload 4, 2) := by decide +kernel
theorem dX7_manyOf_26 : decode cX7_manyOf 26 = .ok (.invokestatic 108, 3) := by decide +kernel
theorem dX7_manyOf_29 : decode cX7_manyOf 29 = .ok (.iload_n 2, 1) := by decide +kernel
theorem dX7_manyOf_30 : decode cX7_manyOf 30 = .ok (.if_icmp .ne 17, 3) := by decide +kernel
theorem dX7_manyOf_33 : decode cX7_manyOf 33 = .ok (.aload_n 0, 1) := by decide +kernel
theorem dX7_manyOf_34 : decode cX7_manyOf 34 = .ok (.iload_n 1, 1) := by decide +kernel
theorem dX7_manyOf_35 : decode cX7_manyOf 35 = .ok (.iload 4, 2) := by decide +kernel
theorem dX7_manyOf_37 : decode cX7_manyOf 37 = .ok (.invokevirtual 124, 3) := by decide +kernel
theorem dX7_manyOf_40 : decode cX7_manyOf 40 = .ok (.ifCond .eq 7, 3) := by decide +kernel
theorem dX7_manyOf_43 : decode cX7_manyOf 43 = .ok (.iconst 1, 1) := by decide +kernel
theorem dX7_manyOf_44 : decode cX7_manyOf 44 = .ok (.goto 4, 3) := by decide +kernel
theorem dX7_manyOf_47 : decode cX7_manyOf 47 = .ok (.iconst 0, 1) := by decide +kernel
theorem dX7_manyOf_48 : decode cX7_manyOf 48 = .ok (.iadd, 1) := by decide +kernel
theorem dX7_manyOf_49 : decode cX7_manyOf 49 = .ok (.istore_n 3, 1) := by decide +kernel
theorem dX7_manyOf_50 : decode cX7_manyOf 50 = .ok (.iinc 4 1, 3) := by decide +kernel
theorem dX7_manyOf_53 : decode cX7_manyOf 53 = .ok (.goto (-48), 3) := by decide +kernel
theorem dX7_manyOf_56 : decode cX7_manyOf 56 = .ok (.iload_n 3, 1) := by decide +kernel
theorem dX7_manyOf_57 : decode cX7_manyOf 57 = .ok (.ireturn, 1) := by decide +kernel
theorem dX7_sets_0 : decode cX7_sets 0 = .ok (.aload_n 0, 1) := by decide +kernel
theorem dX7_sets_1 : decode cX7_sets 1 = .ok (.iload_n 1, 1) := by decide +kernel
theorem dX7_sets_2 : decode cX7_sets 2 = .ok (.invokestatic 43, 3) := by decide +kernel
theorem dX7_sets_5 : decode cX7_sets 5 = .ok (.iconst 1, 1) := by decide +kernel
theorem dX7_sets_6 : decode cX7_sets 6 = .ok (.invokevirtual 51, 3) := by decide +kernel
theorem dX7_sets_9 : decode cX7_sets 9 = .ok (.ifCond .eq 12, 3) := by decide +kernel
theorem dX7_sets_12 : decode cX7_sets 12 = .ok (.aload_n 0, 1) := by decide +kernel
theorem dX7_sets_13 : decode cX7_sets 13 = .ok (.iload_n 1, 1) := by decide +kernel
theorem dX7_sets_14 : decode cX7_sets 14 = .ok (.iconst (-1), 1) := by decide +kernel
theorem dX7_sets_15 : decode cX7_sets 15 = .ok (.invokevirtual 127, 3) := by decide +kernel
theorem dX7_sets_18 : decode cX7_sets 18 = .ok (.goto 4, 3) := by decide +kernel
theorem dX7_sets_21 : decode cX7_sets 21 = .ok (.iconst 0, 1) := by decide +kernel
theorem dX7_sets_22 : decode cX7_sets 22 = .ok (.ireturn, 1) := by decide +kernel
theorem dX7_setsOf_0 : decode cX7_setsOf 0 = .ok (.aload_n 0, 1) := by decide +kernel
theorem dX7_setsOf_1 : decode cX7_setsOf 1 = .ok (.iload_n 1, 1) := by decide +kernel
theorem dX7_setsOf_2 : decode cX7_setsOf 2 = .ok (.invokestatic 43, 3) := by decide +kernel
theorem dX7_setsOf_5 : decode cX7_setsOf 5 = .ok (.iconst 1, 1) := by decide +kernel
theorem dX7_setsOf_6 : decode cX7_setsOf 6 = .ok (.invokevirtual 51, 3) := by decide +kernel
theorem dX7_setsOf_9 : decode cX7_setsOf 9 = .ok (.ifCond .eq 16, 3) := by decide +kernel
theorem dX7_setsOf_12 : decode cX7_setsOf 12 = .ok (.iload_n 2, 1) := by decide +kernel
theorem dX7_setsOf_13 : decode cX7_setsOf 13 = .ok (.ifCond .lt 12, 3) := by decide +kernel
theorem dX7_setsOf_16 : decode cX7_setsOf 16 = .ok (.aload_n 0, 1) := by decide +kernel
theorem dX7_setsOf_17 : decode cX7_setsOf 17 = .ok (.iload_n 1, 1) := by decide +kernel
theorem dX7_setsOf_18 : decode cX7_setsOf 18 = .ok (.iload_n 2, 1) := by decide +kernel
theorem dX7_setsOf_19 : decode cX7_setsOf 19 = .ok (.invokevirtual 127, 3) := by decide +kernel
theorem dX7_setsOf_22 : decode cX7_setsOf 22 = .ok (.goto 4, 3) := by decide +kernel
theorem dX7_setsOf_25 : decode cX7_setsOf 25 = .ok (.iconst 0, 1) := by decide +kernel
theorem dX7_setsOf_26 : decode cX7_setsOf 26 = .ok (.ireturn, 1) := by decide +kernel
theorem dX7_setAt_0 : decode cX7_setAt 0 = .ok (.aload_n 0, 1) := by decide +kernel
theorem dX7_setAt_1 : decode cX7_setAt 1 = .ok (.iload_n 1, 1) := by decide +kernel
theorem dX7_setAt_2 : decode cX7_setAt 2 = .ok (.invokestatic 43, 3) := by decide +kernel
theorem dX7_setAt_5 : decode cX7_setAt 5 = .ok (.ifCond .eq 21, 3) := by decide +kernel
theorem dX7_setAt_8 : decode cX7_setAt 8 = .ok (.iload_n 2, 1) := by decide +kernel
theorem dX7_setAt_9 : decode cX7_setAt 9 = .ok (.ifCond .lt 17, 3) := by decide +kernel
theorem dX7_setAt_12 : decode cX7_setAt 12 = .ok (.iload_n 2, 1) := by decide +kernel
theorem dX7_setAt_13 : decode cX7_setAt 13 = .ok (.aload_n 0, 1) := by decide +kernel
theorem dX7_setAt_14 : decode cX7_setAt 14 = .ok (.iload_n 1, 1) := by decide +kernel
theorem dX7_setAt_15 : decode cX7_setAt 15 = .ok (.iconst (-1), 1) := by decide +kernel
theorem dX7_setAt_16 : decode cX7_setAt 16 = .ok (.invokevirtual 127, 3) := by decide +kernel
theorem dX7_setAt_19 : decode cX7_setAt 19 = .ok (.if_icmp .ge 7, 3) := by decide +kernel
theorem dX7_setAt_22 : decode cX7_setAt 22 = .ok (.iconst 1, 1) := by decide +kernel
theorem dX7_setAt_23 : decode cX7_setAt 23 = .ok (.goto 4, 3) := by decide +kernel
theorem dX7_setAt_26 : decode cX7_setAt 26 = .ok (.iconst 0, 1) := by decide +kernel
theorem dX7_setAt_27 : decode cX7_setAt 27 = .ok (.iconst 1, 1) := by decide +kernel
theorem dX7_setAt_28 : decode cX7_setAt 28 = .ok (.invokevirtual 51, 3) := by decide +kernel
theorem dX7_setAt_31 : decode cX7_setAt 31 = .ok (.ifCond .ne 5, 3) := by decide +kernel
theorem dX7_setAt_34 : decode cX7_setAt 34 = .ok (.iconst 0, 1) := by decide +kernel
theorem dX7_setAt_35 : decode cX7_setAt 35 = .ok (.ireturn, 1) := by decide +kernel
theorem dX7_setAt_36 : decode cX7_setAt 36 = .ok (.iload_n 2, 1) := by decide +kernel
theorem dX7_setAt_37 : decode cX7_setAt 37 = .ok (.istore_n 3, 1) := by decide +kernel
theorem dX7_setAt_38 : decode cX7_setAt 38 = .ok (.iconst 0, 1) := by decide +kernel
theorem dX7_setAt_39 : decode cX7_setAt 39 = .ok (.istore 4, 2) := by decide +kernel
theorem dX7_setAt_41 : decode cX7_setAt 41 = .ok (.iload 4, 2) := by decide +kernel
theorem dX7_setAt_43 : decode cX7_setAt 43 = .ok (.aload_n 0, 1) := by decide +kernel
theorem dX7_setAt_44 : decode cX7_setAt 44 = .ok (.getfield 9, 3) := by decide +kernel
theorem dX7_setAt_47 : decode cX7_setAt 47 = .ok (.iload_n 1, 1) := by decide +kernel
theorem dX7_setAt_48 : decode cX7_setAt 48 = .ok (.iaload, 1) := by decide +kernel
theorem dX7_setAt_49 : decode cX7_setAt 49 = .ok (.if_icmp .gt 64, 3) := by decide +kernel
theorem dX7_setAt_52 : decode cX7_setAt 52 = .ok (.iconst 0, 1) := by decide +kernel
theorem dX7_setAt_53 : decode cX7_setAt 53 = .ok (.istore 5, 2) := by decide +kernel
theorem dX7_setAt_55 : decode cX7_setAt 55 = .ok (.iload 5, 2) := by decide +kernel
theorem dX7_setAt_57 : decode cX7_setAt 57 = .ok (.iconst 1, 1) := by decide +kernel
theorem dX7_setAt_58 : decode cX7_setAt 58 = .ok (.aload_n 0, 1) := by decide +kernel
theorem dX7_setAt_59 : decode cX7_setAt 59 = .ok (.getfield 9, 3) := by decide +kernel
theorem dX7_setAt_62 : decode cX7_setAt 62 = .ok (.iload_n 1, 1) := by decide +kernel
theorem dX7_setAt_63 : decode cX7_setAt 63 = .ok (.iaload, 1) := by decide +kernel
theorem dX7_setAt_64 : decode cX7_setAt 64 = .ok (.ishl, 1) := by decide +kernel
theorem dX7_setAt_65 : decode cX7_setAt 65 = .ok (.if_icmp .ge 42, 3) := by decide +kernel
theorem dX7_setAt_68 : decode cX7_setAt 68 = .ok (.iload 5, 2) := by decide +kernel
theorem dX7_setAt_70 : decode cX7_setAt 70 = .ok (.invokestatic 108, 3) := by decide +kernel
theorem dX7_setAt_73 : decode cX7_setAt 73 = .ok (.iload 4, 2) := by decide +kernel
theorem dX7_setAt_75 : decode cX7_setAt 75 = .ok (.if_icmp .ne 26, 3) := by decide +kernel
theorem dX7_setAt_78 : decode cX7_setAt 78 = .ok (.aload_n 0, 1) := by decide +kernel
theorem dX7_setAt_79 : decode cX7_setAt 79 = .ok (.iload_n 1, 1) := by decide +kernel
theorem dX7_setAt_80 : decode cX7_setAt 80 = .ok (.iload 5, 2) := by decide +kernel
theorem dX7_setAt_82 : decode cX7_setAt 82 = .ok (.invokevirtual 124, 3) := by decide +kernel
theorem dX7_setAt_85 : decode cX7_setAt 85 = .ok (.ifCond .ne 6, 3) := by decide +kernel
theorem dX7_setAt_88 : decode cX7_setAt 88 = .ok (.goto 13, 3) := by decide +kernel
theorem dX7_setAt_91 : decode cX7_setAt 91 = .ok (.iload_n 3, 1) := by decide +kernel
theorem dX7_setAt_92 : decode cX7_setAt 92 = .ok (.ifCond .ne 6, 3) := by decide +kernel
theorem dX7_setAt_95 : decode cX7_setAt 95 = .ok (.iload 5, 2) := by decide +kernel
theorem dX7_setAt_97 : decode cX7_setAt 97 = .ok (.ireturn, 1) := by decide +kernel
theorem dX7_setAt_98 : decode cX7_setAt 98 = .ok (.iinc 3 (-1), 3) := by decide +kernel
theorem dX7_setAt_101 : decode cX7_setAt 101 = .ok (.iinc 5 1, 3) := by decide +kernel
theorem dX7_setAt_104 : decode cX7_setAt 104 = .ok (.goto (-49), 3) := by decide +kernel
theorem dX7_setAt_107 : decode cX7_setAt 107 = .ok (.iinc 4 1, 3) := by decide +kernel
theorem dX7_setAt_110 : decode cX7_setAt 110 = .ok (.goto (-69), 3) := by decide +kernel
theorem dX7_setAt_113 : decode cX7_setAt 113 = .ok (.iconst (-1), 1) := by decide +kernel
theorem dX7_setAt_114 : decode cX7_setAt 114 = .ok (.ireturn, 1) := by decide +kernel
theorem dX7_placeOf_0 : decode cX7_placeOf 0 = .ok (.aload_n 0, 1) := by decide +kernel
theorem dX7_placeOf_1 : decode cX7_placeOf 1 = .ok (.iload_n 1, 1) := by decide +kernel
theorem dX7_placeOf_2 : decode cX7_placeOf 2 = .ok (.invokestatic 43, 3) := by decide +kernel
theorem dX7_placeOf_5 : decode cX7_placeOf 5 = .ok (.iconst 1, 1) := by decide +kernel
theorem dX7_placeOf_6 : decode cX7_placeOf 6 = .ok (.invokevirtual 51, 3) := by decide +kernel
theorem dX7_placeOf_9 : decode cX7_placeOf 9 = .ok (.ifCond .eq 17, 3) := by decide +kernel
theorem dX7_placeOf_12 : decode cX7_placeOf 12 = .ok (.aload_n 0, 1) := by decide +kernel
theorem dX7_placeOf_13 : decode cX7_placeOf 13 = .ok (.aload_n 0, 1) := by decide +kernel
theorem dX7_placeOf_14 : decode cX7_placeOf 14 = .ok (.iload_n 1, 1) := by decide +kernel
theorem dX7_placeOf_15 : decode cX7_placeOf 15 = .ok (.iload_n 2, 1) := by decide +kernel
theorem dX7_placeOf_16 : decode cX7_placeOf 16 = .ok (.invokevirtual 72, 3) := by decide +kernel
theorem dX7_placeOf_19 : decode cX7_placeOf 19 = .ok (.iconst 2, 1) := by decide +kernel
theorem dX7_placeOf_20 : decode cX7_placeOf 20 = .ok (.invokevirtual 51, 3) := by decide +kernel
theorem dX7_placeOf_23 : decode cX7_placeOf 23 = .ok (.ifCond .ne 5, 3) := by decide +kernel
theorem dX7_placeOf_26 : decode cX7_placeOf 26 = .ok (.iconst 0, 1) := by decide +kernel
theorem dX7_placeOf_27 : decode cX7_placeOf 27 = .ok (.ireturn, 1) := by decide +kernel
theorem dX7_placeOf_28 : decode cX7_placeOf 28 = .ok (.aload_n 0, 1) := by decide +kernel
theorem dX7_placeOf_29 : decode cX7_placeOf 29 = .ok (.iload_n 1, 1) := by decide +kernel
theorem dX7_placeOf_30 : decode cX7_placeOf 30 = .ok (.iload_n 2, 1) := by decide +kernel
theorem dX7_placeOf_31 : decode cX7_placeOf 31 = .ok (.invokevirtual 124, 3) := by decide +kernel
theorem dX7_placeOf_34 : decode cX7_placeOf 34 = .ok (.ifCond .eq 12, 3) := by decide +kernel
theorem dX7_placeOf_37 : decode cX7_placeOf 37 = .ok (.aload_n 0, 1) := by decide +kernel
theorem dX7_placeOf_38 : decode cX7_placeOf 38 = .ok (.iload_n 1, 1) := by decide +kernel
theorem dX7_placeOf_39 : decode cX7_placeOf 39 = .ok (.iload_n 2, 1) := by decide +kernel
theorem dX7_placeOf_40 : decode cX7_placeOf 40 = .ok (.invokevirtual 130, 3) := by decide +kernel
theorem dX7_placeOf_43 : decode cX7_placeOf 43 = .ok (.goto 4, 3) := by decide +kernel
theorem dX7_placeOf_46 : decode cX7_placeOf 46 = .ok (.iconst (-1), 1) := by decide +kernel
theorem dX7_placeOf_47 : decode cX7_placeOf 47 = .ok (.ireturn, 1) := by decide +kernel
theorem dX7_near_0 : decode cX7_near 0 = .ok (.iload_n 3, 1) := by decide +kernel
theorem dX7_near_1 : decode cX7_near 1 = .ok (.bipush 108, 2) := by decide +kernel
theorem dX7_near_3 : decode cX7_near 3 = .ok (.if_icmp .eq 21, 3) := by decide +kernel
theorem dX7_near_6 : decode cX7_near 6 = .ok (.iload_n 3, 1) := by decide +kernel
theorem dX7_near_7 : decode cX7_near 7 = .ok (.bipush 102, 2) := by decide +kernel
theorem dX7_near_9 : decode cX7_near 9 = .ok (.if_icmp .eq 15, 3) := by decide +kernel
theorem dX7_near_12 : decode cX7_near 12 = .ok (.iload_n 3, 1) := by decide +kernel
theorem dX7_near_13 : decode cX7_near 13 = .ok (.bipush 99, 2) := by decide +kernel
theorem dX7_near_15 : decode cX7_near 15 = .ok (.if_icmp .eq 9, 3) := by decide +kernel
theorem dX7_near_18 : decode cX7_near 18 = .ok (.iload_n 3, 1) := by decide +kernel
theorem dX7_near_19 : decode cX7_near 19 = .ok (.bipush 104, 2) := by decide +kernel
theorem dX7_near_21 : decode cX7_near 21 = .ok (.if_icmp .ne 7, 3) := by decide +kernel
theorem dX7_near_24 : decode cX7_near 24 = .ok (.iconst 1, 1) := by decide +kernel
theorem dX7_near_25 : decode cX7_near 25 = .ok (.goto 4, 3) := by decide +kernel
theorem dX7_near_28 : decode cX7_near 28 = .ok (.iconst 0, 1) := by decide +kernel
theorem dX7_near_29 : decode cX7_near 29 = .ok (.istore 4, 2) := by decide +kernel
theorem dX7_near_31 : decode cX7_near 31 = .ok (.aload_n 0, 1) := by decide +kernel
theorem dX7_near_32 : decode cX7_near 32 = .ok (.iload_n 1, 1) := by decide +kernel
theorem dX7_near_33 : decode cX7_near 33 = .ok (.invokestatic 43, 3) := by decide +kernel
theorem dX7_near_36 : decode cX7_near 36 = .ok (.iconst 1, 1) := by decide +kernel
theorem dX7_near_37 : decode cX7_near 37 = .ok (.invokevirtual 51, 3) := by decide +kernel
theorem dX7_near_40 : decode cX7_near 40 = .ok (.ifCond .eq 30, 3) := by decide +kernel
theorem dX7_near_43 : decode cX7_near 43 = .ok (.aload_n 0, 1) := by decide +kernel
theorem dX7_near_44 : decode cX7_near 44 = .ok (.aload_n 0, 1) := by decide +kernel
theorem dX7_near_45 : decode cX7_near 45 = .ok (.iload_n 1, 1) := by decide +kernel
theorem dX7_near_46 : decode cX7_near 46 = .ok (.iload_n 2, 1) := by decide +kernel
theorem dX7_near_47 : decode cX7_near 47 = .ok (.invokevirtual 72, 3) := by decide +kernel
theorem dX7_near_50 : decode cX7_near 50 = .ok (.ifCond .eq 12, 3) := by decide +kernel
theorem dX7_near_53 : decode cX7_near 53 = .ok (.iload 4, 2) := by decide +kernel
theorem dX7_near_55 : decode cX7_near 55 = .ok (.ifCond .eq 7, 3) := by decide +kernel
theorem dX7_near_58 : decode cX7_near 58 = .ok (.iconst 1, 1) := by decide +kernel
theorem dX7_near_59 : decode cX7_near 59 = .ok (.goto 4, 3) := by decide +kernel
theorem dX7_near_62 : decode cX7_near 62 = .ok (.iconst 0, 1) := by decide +kernel
theorem dX7_near_63 : decode cX7_near 63 = .ok (.iconst 2, 1) := by decide +kernel
theorem dX7_near_64 : decode cX7_near 64 = .ok (.invokevirtual 51, 3) := by decide +kernel
theorem dX7_near_67 : decode cX7_near 67 = .ok (.ifCond .ne 5, 3) := by decide +kernel
theorem dX7_near_70 : decode cX7_near 70 = .ok (.iconst 0, 1) := by decide +kernel
theorem dX7_near_71 : decode cX7_near 71 = .ok (.ireturn, 1) := by decide +kernel
theorem dX7_near_72 : decode cX7_near 72 = .ok (.iload_n 3, 1) := by decide +kernel
theorem dX7_near_73 : decode cX7_near 73 = .ok (.bipush 108, 2) := by decide +kernel
theorem dX7_near_75 : decode cX7_near 75 = .ok (.if_icmp .eq 9, 3) := by decide +kernel
theorem dX7_near_78 : decode cX7_near 78 = .ok (.iload_n 3, 1) := by decide +kernel
theorem dX7_near_79 : decode cX7_near 79 = .ok (.bipush 102, 2) := by decide +kernel
theorem dX7_near_81 : decode cX7_near 81 = .ok (.if_icmp .ne 7, 3) := by decide +kernel
theorem dX7_near_84 : decode cX7_near 84 = .ok (.iconst 1, 1) := by decide +kernel
theorem dX7_near_85 : decode cX7_near 85 = .ok (.goto 4, 3) := by decide +kernel
theorem dX7_near_88 : decode cX7_near 88 = .ok (.iconst 0, 1) := by decide +kernel
theorem dX7_near_89 : decode cX7_near 89 = .ok (.istore 5, 2) := by decide +kernel
theorem dX7_near_91 : decode cX7_near 91 = .ok (.iload_n 3, 1) := by decide +kernel
theorem dX7_near_92 : decode cX7_near 92 = .ok (.bipush 102, 2) := by decide +kernel
theorem dX7_near_94 : decode cX7_near 94 = .ok (.if_icmp .eq 9, 3) := by decide +kernel
theorem dX7_near_97 : decode cX7_near 97 = .ok (.iload_n 3, 1) := by decide +kernel
theorem dX7_near_98 : decode cX7_near 98 = .ok (.bipush 99, 2) := by decide +kernel
theorem dX7_near_100 : decode cX7_near 100 = .ok (.if_icmp .ne 14, 3) := by decide +kernel
theorem dX7_near_103 : decode cX7_near 103 = .ok (.aload_n 0, 1) := by decide +kernel
theorem dX7_near_104 : decode cX7_near 104 = .ok (.iload_n 1, 1) := by decide +kernel
theorem dX7_near_105 : decode cX7_near 105 = .ok (.iload_n 2, 1) := by decide +kernel
theorem dX7_near_106 : decode cX7_near 106 = .ok (.invokevirtual 124, 3) := by decide +kernel
theorem dX7_near_109 : decode cX7_near 109 = .ok (.ifCond .eq 5, 3) := by decide +kernel
theorem dX7_near_112 : decode cX7_near 112 = .ok (.iload_n 2, 1) := by decide +kernel
theorem dX7_near_113 : decode cX7_near 113 = .ok (.ireturn, 1) := by decide +kernel
theorem dX7_near_114 : decode cX7_near 114 = .ok (.iconst (-1), 1) := by decide +kernel
theorem dX7_near_115 : decode cX7_near 115 = .ok (.istore 6, 2) := by decide +kernel
theorem dX7_near_117 : decode cX7_near 117 = .ok (.iconst 0, 1) := by decide +kernel
theorem dX7_near_118 : decode cX7_near 118 = .ok (.istore 7, 2) := by decide +kernel
theorem dX7_near_120 : decode cX7_near 120 = .ok (.iload 7, 2) := by decide +kernel
theorem dX7_near_122 : decode cX7_near 122 = .ok (.iconst 1, 1) := by decide +kernel
theorem dX7_near_123 : decode cX7_near 123 = .ok (.aload_n 0, 1) := by decide +kernel
theorem dX7_near_124 : decode cX7_near 124 = .ok (.getfield 9, 3) := by decide +kernel
theorem dX7_near_127 : decode cX7_near 127 = .ok (.iload_n 1, 1) := by decide +kernel
theorem dX7_near_128 : decode cX7_near 128 = .ok (.iaload, 1) := by decide +kernel
theorem dX7_near_129 : decode cX7_near 129 = .ok (.ishl, 1) := by decide +kernel
theorem dX7_near_130 : decode cX7_near 130 = .ok (.if_icmp .ge 100, 3) := by decide +kernel
theorem dX7_near_133 : decode cX7_near 133 = .ok (.aload_n 0, 1) := by decide +kernel
theorem dX7_near_134 : decode cX7_near 134 = .ok (.iload_n 1, 1) := by decide +kernel
theorem dX7_near_135 : decode cX7_near 135 = .ok (.iload 7, 2) := by decide +kernel
theorem dX7_near_137 : decode cX7_near 137 = .ok (.invokevirtual 124, 3) := by decide +kernel
theorem dX7_near_140 : decode cX7_near 140 = .ok (.ifCond .eq 33, 3) := by decide +kernel
theorem dX7_near_143 : decode cX7_near 143 = .ok (.iload 5, 2) := by decide +kernel
theorem dX7_near_145 : decode cX7_near 145 = .ok (.ifCond .eq 15, 3) := by decide +kernel
theorem dX7_near_148 : decode cX7_near 148 = .ok (.iload 7, 2) := by decide +kernel
theorem dX7_near_150 : decode cX7_near 150 = .ok (.iload_n 2, 1) := by decide +kernel
theorem dX7_near_151 : decode cX7_near 151 = .ok (.invokestatic 121, 3) := by decide +kernel
theorem dX7_near_154 : decode cX7_near 154 = .ok (.ifCond .eq 19, 3) := by decide +kernel
theorem dX7_near_157 : decode cX7_near 157 = .ok (.goto 12, 3) := by decide +kernel
theorem dX7_near_160 : decode cX7_near 160 = .ok (.iload_n 2, 1) := by decide +kernel
theorem dX7_near_161 : decode cX7_near 161 = .ok (.iload 7, 2) := by decide +kernel
theorem dX7_near_163 : decode cX7_near 163 = .ok (.invokestatic 121, 3) := by decide +kernel
theorem dX7_near_166 : decode cX7_near 166 = .ok (.ifCond .eq 7, 3) := by decide +kernel
theorem dX7_near_169 : decode cX7_near 169 = .ok (.iconst 1, 1) := by decide +kernel
theorem dX7_near_170 : decode cX7_near 170 = .ok (.goto 4, 3) := by decide +kernel
theorem dX7_near_173 : decode cX7_near 173 = .ok (.iconst 0, 1) := by decide +kernel
theorem dX7_near_174 : decode cX7_near 174 = .ok (.istore 8, 2) := by decide +kernel
theorem dX7_near_176 : decode cX7_near 176 = .ok (.iload 8, 2) := by decide +kernel
theorem dX7_near_178 : decode cX7_near 178 = .ok (.ifCond .eq 42, 3) := by decide +kernel
theorem dX7_near_181 : decode cX7_near 181 = .ok (.iload 6, 2) := by decide +kernel
theorem dX7_near_183 : decode cX7_near 183 = .ok (.iconst (-1), 1) := by decide +kernel
theorem dX7_near_184 : decode cX7_near 184 = .ok (.if_icmp .eq 31, 3) := by decide +kernel
theorem dX7_near_187 : decode cX7_near 187 = .ok (.iload 5, 2) := by decide +kernel
theorem dX7_near_189 : decode cX7_near 189 = .ok (.ifCond .eq 16, 3) := by decide +kernel
theorem dX7_near_192 : decode cX7_near 192 = .ok (.iload 6, 2) := by decide +kernel
theorem dX7_near_194 : decode cX7_near 194 = .ok (.iload 7, 2) := by decide +kernel
theorem dX7_near_196 : decode cX7_near 196 = .ok (.invokestatic 121, 3) := by decide +kernel
theorem dX7_near_199 : decode cX7_near 199 = .ok (.ifCond .eq 21, 3) := by decide +kernel
theorem dX7_near_202 : decode cX7_near 202 = .ok (.goto 13, 3) := by decide +kernel
theorem dX7_near_205 : decode cX7_near 205 = .ok (.iload 7, 2) := by decide +kernel
theorem dX7_near_207 : decode cX7_near 207 = .ok (.iload 6, 2) := by decide +kernel
theorem dX7_near_209 : decode cX7_near 209 = .ok (.invokestatic 121, 3) := by decide +kernel
theorem dX7_near_212 : decode cX7_near 212 = .ok (.ifCond .eq 8, 3) := by decide +kernel
theorem dX7_near_215 : decode cX7_near 215 = .ok (.iload 7, 2) := by decide +kernel
theorem dX7_near_217 : decode cX7_near 217 = .ok (.goto 5, 3) := by decide +kernel
theorem dX7_near_220 : decode cX7_near 220 = .ok (.iload 6, 2) := by decide +kernel
theorem dX7_near_222 : decode cX7_near 222 = .ok (.istore 6, 2) := by decide +kernel
theorem dX7_near_224 : decode cX7_near 224 = .ok (.iinc 7 1, 3) := by decide +kernel
theorem dX7_near_227 : decode cX7_near 227 = .ok (.goto (-107), 3) := by decide +kernel
theorem dX7_near_230 : decode cX7_near 230 = .ok (.iload 6, 2) := by decide +kernel
theorem dX7_near_232 : decode cX7_near 232 = .ok (.ireturn, 1) := by decide +kernel
theorem dX7_closed_0 : decode cX7_closed 0 = .ok (.aload_n 0, 1) := by decide +kernel
theorem dX7_closed_1 : decode cX7_closed 1 = .ok (.iload_n 1, 1) := by decide +kernel
theorem dX7_closed_2 : decode cX7_closed 2 = .ok (.invokestatic 43, 3) := by decide +kernel
theorem dX7_closed_5 : decode cX7_closed 5 = .ok (.iconst 1, 1) := by decide +kernel
theorem dX7_closed_6 : decode cX7_closed 6 = .ok (.invokevirtual 51, 3) := by decide +kernel
theorem dX7_closed_9 : decode cX7_closed 9 = .ok (.ifCond .eq 26, 3) := by decide +kernel
theorem dX7_closed_12 : decode cX7_closed 12 = .ok (.aload_n 0, 1) := by decide +kernel
theorem dX7_closed_13 : decode cX7_closed 13 = .ok (.aload_n 0, 1) := by decide +kernel
theorem dX7_closed_14 : decode cX7_closed 14 = .ok (.iload_n 1, 1) := by decide +kernel
theorem dX7_closed_15 : decode cX7_closed 15 = .ok (.iload_n 2, 1) := by decide +kernel
theorem dX7_closed_16 : decode cX7_closed 16 = .ok (.invokevirtual 72, 3) := by decide +kernel
theorem dX7_closed_19 : decode cX7_closed 19 = .ok (.iconst 2, 1) := by decide +kernel
theorem dX7_closed_20 : decode cX7_closed 20 = .ok (.invokevirtual 51, 3) := by decide +kernel
theorem dX7_closed_23 : decode cX7_closed 23 = .ok (.ifCond .eq 12, 3) := by decide +kernel
theorem dX7_closed_26 : decode cX7_closed 26 = .ok (.aload_n 0, 1) := by decide +kernel
theorem dX7_closed_27 : decode cX7_closed 27 = .ok (.iload_n 1, 1) := by decide +kernel
theorem dX7_closed_28 : decode cX7_closed 28 = .ok (.iload_n 2, 1) := by decide +kernel
theorem dX7_closed_29 : decode cX7_closed 29 = .ok (.invokevirtual 118, 3) := by decide +kernel
theorem dX7_closed_32 : decode cX7_closed 32 = .ok (.goto 4, 3) := by decide +kernel
theorem dX7_closed_35 : decode cX7_closed 35 = .ok (.iconst 0, 1) := by decide +kernel
theorem dX7_closed_36 : decode cX7_closed 36 = .ok (.ireturn, 1) := by decide +kernel
theorem dX7_inner_0 : decode cX7_inner 0 = .ok (.aload_n 0, 1) := by decide +kernel
theorem dX7_inner_1 : decode cX7_inner 1 = .ok (.iload_n 1, 1) := by decide +kernel
theorem dX7_inner_2 : decode cX7_inner 2 = .ok (.invokestatic 43, 3) := by decide +kernel
theorem dX7_inner_5 : decode cX7_inner 5 = .ok (.iconst 1, 1) := by decide +kernel
theorem dX7_inner_6 : decode cX7_inner 6 = .ok (.invokevirtual 51, 3) := by decide +kernel
theorem dX7_inner_9 : decode cX7_inner 9 = .ok (.ifCond .eq 17, 3) := by decide +kernel
theorem dX7_inner_12 : decode cX7_inner 12 = .ok (.aload_n 0, 1) := by decide +kernel
theorem dX7_inner_13 : decode cX7_inner 13 = .ok (.aload_n 0, 1) := by decide +kernel
theorem dX7_inner_14 : decode cX7_inner 14 = .ok (.iload_n 1, 1) := by decide +kernel
theorem dX7_inner_15 : decode cX7_inner 15 = .ok (.iload_n 2, 1) := by decide +kernel
theorem dX7_inner_16 : decode cX7_inner 16 = .ok (.invokevirtual 72, 3) := by decide +kernel
theorem dX7_inner_19 : decode cX7_inner 19 = .ok (.iconst 2, 1) := by decide +kernel
theorem dX7_inner_20 : decode cX7_inner 20 = .ok (.invokevirtual 51, 3) := by decide +kernel
theorem dX7_inner_23 : decode cX7_inner 23 = .ok (.ifCond .ne 5, 3) := by decide +kernel
theorem dX7_inner_26 : decode cX7_inner 26 = .ok (.iconst 0, 1) := by decide +kernel
theorem dX7_inner_27 : decode cX7_inner 27 = .ok (.ireturn, 1) := by decide +kernel
theorem dX7_inner_28 : decode cX7_inner 28 = .ok (.iconst 0, 1) := by decide +kernel
theorem dX7_inner_29 : decode cX7_inner 29 = .ok (.istore_n 3, 1) := by decide +kernel
theorem dX7_inner_30 : decode cX7_inner 30 = .ok (.iconst 0, 1) := by decide +kernel
theorem dX7_inner_31 : decode cX7_inner 31 = .ok (.istore 4, 2) := by decide +kernel
theorem dX7_inner_33 : decode cX7_inner 33 = .ok (.iload 4, 2) := by decide +kernel
theorem dX7_inner_35 : decode cX7_inner 35 = .ok (.aload_n 0, 1) := by decide +kernel
theorem dX7_inner_36 : decode cX7_inner 36 = .ok (.getfield 9, 3) := by decide +kernel
theorem dX7_inner_39 : decode cX7_inner 39 = .ok (.iload_n 1, 1) := by decide +kernel
theorem dX7_inner_40 : decode cX7_inner 40 = .ok (.iaload, 1) := by decide +kernel
theorem dX7_inner_41 : decode cX7_inner 41 = .ok (.if_icmp .ge 43, 3) := by decide +kernel
theorem dX7_inner_44 : decode cX7_inner 44 = .ok (.aload_n 0, 1) := by decide +kernel
theorem dX7_inner_45 : decode cX7_inner 45 = .ok (.iload_n 1, 1) := by decide +kernel
theorem dX7_inner_46 : decode cX7_inner 46 = .ok (.iload 4, 2) := by decide +kernel
theorem dX7_inner_48 : decode cX7_inner 48 = .ok (.invokevirtual 95, 3) := by decide +kernel
theorem dX7_inner_51 : decode cX7_inner 51 = .ok (.iconst 1, 1) := by decide +kernel
theorem dX7_inner_52 : decode cX7_inner 52 = .ok (.iload 4, 2) := by decide +kernel
theorem dX7_inner_54 : decode cX7_inner 54 = .ok (.ishl, 1) := by decide +kernel
theorem dX7_inner_55 : decode cX7_inner 55 = .ok (.iadd, 1) := by decide +kernel
theorem dX7_inner_56 : decode cX7_inner 56 = .ok (.istore 5, 2) := by decide +kernel
theorem dX7_inner_58 : decode cX7_inner 58 = .ok (.iload_n 3, 1) := by decide +kernel
theorem dX7_inner_59 : decode cX7_inner 59 = .ok (.iload 5, 2) := by decide +kernel
theorem dX7_inner_61 : decode cX7_inner 61 = .ok (.iload_n 2, 1) := by decide +kernel
theorem dX7_inner_62 : decode cX7_inner 62 = .ok (.iand, 1) := by decide +kernel
theorem dX7_inner_63 : decode cX7_inner 63 = .ok (.iload 5, 2) := by decide +kernel
theorem dX7_inner_65 : decode cX7_inner 65 = .ok (.if_icmp .ne 10, 3) := by decide +kernel
theorem dX7_inner_68 : decode cX7_inner 68 = .ok (.iconst 1, 1) := by decide +kernel
theorem dX7_inner_69 : decode cX7_inner 69 = .ok (.iload 4, 2) := by decide +kernel
theorem dX7_inner_71 : decode cX7_inner 71 = .ok (.ishl, 1) := by decide +kernel
theorem dX7_inner_72 : decode cX7_inner 72 = .ok (.goto 4, 3) := by decide +kernel
theorem dX7_inner_75 : decode cX7_inner 75 = .ok (.iconst 0, 1) := by decide +kernel
theorem dX7_inner_76 : decode cX7_inner 76 = .ok (.iadd, 1) := by decide +kernel
theorem dX7_inner_77 : decode cX7_inner 77 = .ok (.istore_n 3, 1) := by decide +kernel
theorem dX7_inner_78 : decode cX7_inner 78 = .ok (.iinc 4 1, 3) := by decide +kernel
theorem dX7_inner_81 : decode cX7_inner 81 = .ok (.goto (-48), 3) := by decide +kernel
theorem dX7_inner_84 : decode cX7_inner 84 = .ok (.iload_n 3, 1) := by decide +kernel
theorem dX7_inner_85 : decode cX7_inner 85 = .ok (.ireturn, 1) := by decide +kernel
theorem dX7_tops_0 : decode cX7_tops 0 = .ok (.aload_n 0, 1) := by decide +kernel
theorem dX7_tops_1 : decode cX7_tops 1 = .ok (.iload_n 1, 1) := by decide +kernel
theorem dX7_tops_2 : decode cX7_tops 2 = .ok (.invokestatic 43, 3) := by decide +kernel
theorem dX7_tops_5 : decode cX7_tops 5 = .ok (.iconst 1, 1) := by decide +kernel
theorem dX7_tops_6 : decode cX7_tops 6 = .ok (.invokevirtual 51, 3) := by decide +kernel
theorem dX7_tops_9 : decode cX7_tops 9 = .ok (.ifCond .eq 17, 3) := by decide +kernel
theorem dX7_tops_12 : decode cX7_tops 12 = .ok (.aload_n 0, 1) := by decide +kernel
theorem dX7_tops_13 : decode cX7_tops 13 = .ok (.aload_n 0, 1) := by decide +kernel
theorem dX7_tops_14 : decode cX7_tops 14 = .ok (.iload_n 1, 1) := by decide +kernel
theorem dX7_tops_15 : decode cX7_tops 15 = .ok (.iload_n 2, 1) := by decide +kernel
theorem dX7_tops_16 : decode cX7_tops 16 = .ok (.invokevirtual 72, 3) := by decide +kernel
theorem dX7_tops_19 : decode cX7_tops 19 = .ok (.iconst 2, 1) := by decide +kernel
theorem dX7_tops_20 : decode cX7_tops 20 = .ok (.invokevirtual 51, 3) := by decide +kernel
theorem dX7_tops_23 : decode cX7_tops 23 = .ok (.ifCond .ne 5, 3) := by decide +kernel
theorem dX7_tops_26 : decode cX7_tops 26 = .ok (.iconst 0, 1) := by decide +kernel
theorem dX7_tops_27 : decode cX7_tops 27 = .ok (.ireturn, 1) := by decide +kernel
theorem dX7_tops_28 : decode cX7_tops 28 = .ok (.aload_n 0, 1) := by decide +kernel
theorem dX7_tops_29 : decode cX7_tops 29 = .ok (.iload_n 1, 1) := by decide +kernel
theorem dX7_tops_30 : decode cX7_tops 30 = .ok (.iload_n 2, 1) := by decide +kernel
theorem dX7_tops_31 : decode cX7_tops 31 = .ok (.invokevirtual 124, 3) := by decide +kernel
theorem dX7_tops_34 : decode cX7_tops 34 = .ok (.ifCond .ne 6, 3) := by decide +kernel
theorem dX7_tops_37 : decode cX7_tops 37 = .ok (.bipush (-9), 2) := by decide +kernel
theorem dX7_tops_39 : decode cX7_tops 39 = .ok (.ireturn, 1) := by decide +kernel
theorem dX7_tops_40 : decode cX7_tops 40 = .ok (.iconst 0, 1) := by decide +kernel
theorem dX7_tops_41 : decode cX7_tops 41 = .ok (.istore_n 3, 1) := by decide +kernel
theorem dX7_tops_42 : decode cX7_tops 42 = .ok (.iconst 0, 1) := by decide +kernel
theorem dX7_tops_43 : decode cX7_tops 43 = .ok (.istore 4, 2) := by decide +kernel
theorem dX7_tops_45 : decode cX7_tops 45 = .ok (.iload 4, 2) := by decide +kernel
theorem dX7_tops_47 : decode cX7_tops 47 = .ok (.aload_n 0, 1) := by decide +kernel
theorem dX7_tops_48 : decode cX7_tops 48 = .ok (.getfield 9, 3) := by decide +kernel
theorem dX7_tops_51 : decode cX7_tops 51 = .ok (.iload_n 1, 1) := by decide +kernel
theorem dX7_tops_52 : decode cX7_tops 52 = .ok (.iaload, 1) := by decide +kernel
theorem dX7_tops_53 : decode cX7_tops 53 = .ok (.if_icmp .ge 41, 3) := by decide +kernel
theorem dX7_tops_56 : decode cX7_tops 56 = .ok (.iload_n 3, 1) := by decide +kernel
theorem dX7_tops_57 : decode cX7_tops 57 = .ok (.iload_n 2, 1) := by decide +kernel
theorem dX7_tops_58 : decode cX7_tops 58 = .ok (.iload 4, 2) := by decide +kernel
theorem dX7_tops_60 : decode cX7_tops 60 = .ok (.invokestatic 47, 3) := by decide +kernel
theorem dX7_tops_63 : decode cX7_tops 63 = .ok (.ifCond .eq 22, 3) := by decide +kernel
theorem dX7_tops_66 : decode cX7_tops 66 = .ok (.aload_n 0, 1) := by decide +kernel
theorem dX7_tops_67 : decode cX7_tops 67 = .ok (.iload_n 1, 1) := by decide +kernel
theorem dX7_tops_68 : decode cX7_tops 68 = .ok (.iload 4, 2) := by decide +kernel
theorem dX7_tops_70 : decode cX7_tops 70 = .ok (.invokevirtual 98, 3) := by decide +kernel
theorem dX7_tops_73 : decode cX7_tops 73 = .ok (.iload_n 2, 1) := by decide +kernel
theorem dX7_tops_74 : decode cX7_tops 74 = .ok (.iand, 1) := by decide +kernel
theorem dX7_tops_75 : decode cX7_tops 75 = .ok (.ifCond .ne 10, 3) := by decide +kernel
theorem dX7_tops_78 : decode cX7_tops 78 = .ok (.iconst 1, 1) := by decide +kernel
theorem dX7_tops_79 : decode cX7_tops 79 = .ok (.iload 4, 2) := by decide +kernel
theorem dX7_tops_81 : decode cX7_tops 81 = .ok (.ishl, 1) := by decide +kernel
theorem dX7_tops_82 : decode cX7_tops 82 = .ok (.goto 4, 3) := by decide +kernel
theorem dX7_tops_85 : decode cX7_tops 85 = .ok (.iconst 0, 1) := by decide +kernel
theorem dX7_tops_86 : decode cX7_tops 86 = .ok (.iadd, 1) := by decide +kernel
theorem dX7_tops_87 : decode cX7_tops 87 = .ok (.istore_n 3, 1) := by decide +kernel
theorem dX7_tops_88 : decode cX7_tops 88 = .ok (.iinc 4 1, 3) := by decide +kernel
theorem dX7_tops_91 : decode cX7_tops 91 = .ok (.goto (-46), 3) := by decide +kernel
theorem dX7_tops_94 : decode cX7_tops 94 = .ok (.iload_n 3, 1) := by decide +kernel
theorem dX7_tops_95 : decode cX7_tops 95 = .ok (.ireturn, 1) := by decide +kernel
theorem dX7_shared_0 : decode cX7_shared 0 = .ok (.aload_n 0, 1) := by decide +kernel
theorem dX7_shared_1 : decode cX7_shared 1 = .ok (.iload_n 1, 1) := by decide +kernel
theorem dX7_shared_2 : decode cX7_shared 2 = .ok (.invokestatic 43, 3) := by decide +kernel
theorem dX7_shared_5 : decode cX7_shared 5 = .ok (.ifCond .eq 14, 3) := by decide +kernel
theorem dX7_shared_8 : decode cX7_shared 8 = .ok (.iload_n 2, 1) := by decide +kernel
theorem dX7_shared_9 : decode cX7_shared 9 = .ok (.invokestatic 43, 3) := by decide +kernel
theorem dX7_shared_12 : decode cX7_shared 12 = .ok (.ifCond .eq 7, 3) := by decide +kernel
theorem dX7_shared_15 : decode cX7_shared 15 = .ok (.iconst 1, 1) := by decide +kernel
theorem dX7_shared_16 : decode cX7_shared 16 = .ok (.goto 4, 3) := by decide +kernel
theorem dX7_shared_19 : decode cX7_shared 19 = .ok (.iconst 0, 1) := by decide +kernel
theorem dX7_shared_20 : decode cX7_shared 20 = .ok (.iconst 1, 1) := by decide +kernel
theorem dX7_shared_21 : decode cX7_shared 21 = .ok (.invokevirtual 51, 3) := by decide +kernel
theorem dX7_shared_24 : decode cX7_shared 24 = .ok (.ifCond .ne 5, 3) := by decide +kernel
theorem dX7_shared_27 : decode cX7_shared 27 = .ok (.iconst 0, 1) := by decide +kernel
theorem dX7_shared_28 : decode cX7_shared 28 = .ok (.ireturn, 1) := by decide +kernel
theorem dX7_shared_29 : decode cX7_shared 29 = .ok (.aload_n 0, 1) := by decide +kernel
theorem dX7_shared_30 : decode cX7_shared 30 = .ok (.getfield 9, 3) := by decide +kernel
theorem dX7_shared_33 : decode cX7_shared 33 = .ok (.iload_n 1, 1) := by decide +kernel
theorem dX7_shared_34 : decode cX7_shared 34 = .ok (.iaload, 1) := by decide +kernel
theorem dX7_shared_35 : decode cX7_shared 35 = .ok (.aload_n 0, 1) := by decide +kernel
theorem dX7_shared_36 : decode cX7_shared 36 = .ok (.getfield 9, 3) := by decide +kernel
theorem dX7_shared_39 : decode cX7_shared 39 = .ok (.iload_n 2, 1) := by decide +kernel
theorem dX7_shared_40 : decode cX7_shared 40 = .ok (.iaload, 1) := by decide +kernel
theorem dX7_shared_41 : decode cX7_shared 41 = .ok (.if_icmp .eq 6, 3) := by decide +kernel
theorem dX7_shared_44 : decode cX7_shared 44 = .ok (.bipush (-9), 2) := by decide +kernel
theorem dX7_shared_46 : decode cX7_shared 46 = .ok (.ireturn, 1) := by decide +kernel
theorem dX7_shared_47 : decode cX7_shared 47 = .ok (.iconst 0, 1) := by decide +kernel
theorem dX7_shared_48 : decode cX7_shared 48 = .ok (.istore_n 3, 1) := by decide +kernel
theorem dX7_shared_49 : decode cX7_shared 49 = .ok (.iconst 0, 1) := by decide +kernel
theorem dX7_shared_50 : decode cX7_shared 50 = .ok (.istore 4, 2) := by decide +kernel
theorem dX7_shared_52 : decode cX7_shared 52 = .ok (.iload 4, 2) := by decide +kernel
theorem dX7_shared_54 : decode cX7_shared 54 = .ok (.iconst 1, 1) := by decide +kernel
theorem dX7_shared_55 : decode cX7_shared 55 = .ok (.aload_n 0, 1) := by decide +kernel
theorem dX7_shared_56 : decode cX7_shared 56 = .ok (.getfield 9, 3) := by decide +kernel
theorem dX7_shared_59 : decode cX7_shared 59 = .ok (.iload_n 1, 1) := by decide +kernel
theorem dX7_shared_60 : decode cX7_shared 60 = .ok (.iaload, 1) := by decide +kernel
theorem dX7_shared_61 : decode cX7_shared 61 = .ok (.ishl, 1) := by decide +kernel
theorem dX7_shared_62 : decode cX7_shared 62 = .ok (.if_icmp .ge 37, 3) := by decide +kernel
theorem dX7_shared_65 : decode cX7_shared 65 = .ok (.iload_n 3, 1) := by decide +kernel
theorem dX7_shared_66 : decode cX7_shared 66 = .ok (.aload_n 0, 1) := by decide +kernel
theorem dX7_shared_67 : decode cX7_shared 67 = .ok (.iload_n 1, 1) := by decide +kernel
theorem dX7_shared_68 : decode cX7_shared 68 = .ok (.iload 4, 2) := by decide +kernel
theorem dX7_shared_70 : decode cX7_shared 70 = .ok (.invokevirtual 124, 3) := by decide +kernel
theorem dX7_shared_73 : decode cX7_shared 73 = .ok (.ifCond .eq 17, 3) := by decide +kernel
theorem dX7_shared_76 : decode cX7_shared 76 = .ok (.aload_n 0, 1) := by decide +kernel
theorem dX7_shared_77 : decode cX7_shared 77 = .ok (.iload_n 2, 1) := by decide +kernel
theorem dX7_shared_78 : decode cX7_shared 78 = .ok (.iload 4, 2) := by decide +kernel
theorem dX7_shared_80 : decode cX7_shared 80 = .ok (.invokevirtual 124, 3) := by decide +kernel
theorem dX7_shared_83 : decode cX7_shared 83 = .ok (.ifCond .eq 7, 3) := by decide +kernel
theorem dX7_shared_86 : decode cX7_shared 86 = .ok (.iconst 1, 1) := by decide +kernel
theorem dX7_shared_87 : decode cX7_shared 87 = .ok (.goto 4, 3) := by decide +kernel
theorem dX7_shared_90 : decode cX7_shared 90 = .ok (.iconst 0, 1) := by decide +kernel
theorem dX7_shared_91 : decode cX7_shared 91 = .ok (.iadd, 1) := by decide +kernel
theorem dX7_shared_92 : decode cX7_shared 92 = .ok (.istore_n 3, 1) := by decide +kernel
theorem dX7_shared_93 : decode cX7_shared 93 = .ok (.iinc 4 1, 3) := by decide +kernel
theorem dX7_shared_96 : decode cX7_shared 96 = .ok (.goto (-44), 3) := by decide +kernel
theorem dX7_shared_99 : decode cX7_shared 99 = .ok (.iload_n 3, 1) := by decide +kernel
theorem dX7_shared_100 : decode cX7_shared 100 = .ok (.ireturn, 1) := by decide +kernel
theorem dX7_placeOfRow_0 : decode cX7_placeOfRow 0 = .ok (.aload_n 0, 1) := by decide +kernel
theorem dX7_placeOfRow_1 : decode cX7_placeOfRow 1 = .ok (.getfield 9, 3) := by decide +kernel
theorem dX7_placeOfRow_4 : decode cX7_placeOfRow 4 = .ok (.iload_n 1, 1) := by decide +kernel
theorem dX7_placeOfRow_5 : decode cX7_placeOfRow 5 = .ok (.iaload, 1) := by decide +kernel
theorem dX7_placeOfRow_6 : decode cX7_placeOfRow 6 = .ok (.istore_n 3, 1) := by decide +kernel
theorem dX7_placeOfRow_7 : decode cX7_placeOfRow 7 = .ok (.iload_n 2, 1) := by decide +kernel
theorem dX7_placeOfRow_8 : decode cX7_placeOfRow 8 = .ok (.istore 4, 2) := by decide +kernel
theorem dX7_placeOfRow_10 : decode cX7_placeOfRow 10 = .ok (.iload_n 3, 1) := by decide +kernel
theorem dX7_placeOfRow_11 : decode cX7_placeOfRow 11 = .ok (.iconst 1, 1) := by decide +kernel
theorem dX7_placeOfRow_12 : decode cX7_placeOfRow 12 = .ok (.isub, 1) := by decide +kernel
theorem dX7_placeOfRow_13 : decode cX7_placeOfRow 13 = .ok (.istore 5, 2) := by decide +kernel
theorem dX7_placeOfRow_15 : decode cX7_placeOfRow 15 = .ok (.iload 5, 2) := by decide +kernel
theorem dX7_placeOfRow_17 : decode cX7_placeOfRow 17 = .ok (.ifCond .lt 30, 3) := by decide +kernel
theorem dX7_placeOfRow_20 : decode cX7_placeOfRow 20 = .ok (.aload_n 0, 1) := by decide +kernel
theorem dX7_placeOfRow_21 : decode cX7_placeOfRow 21 = .ok (.getfield 29, 3) := by decide +kernel
theorem dX7_placeOfRow_24 : decode cX7_placeOfRow 24 = .ok (.iload 5, 2) := by decide +kernel
theorem dX7_placeOfRow_26 : decode cX7_placeOfRow 26 = .ok (.iload 4, 2) := by decide +kernel
theorem dX7_placeOfRow_28 : decode cX7_placeOfRow 28 = .ok (.bipush 10, 2) := by decide +kernel
theorem dX7_placeOfRow_30 : decode cX7_placeOfRow 30 = .ok (.irem, 1) := by decide +kernel
theorem dX7_placeOfRow_31 : decode cX7_placeOfRow 31 = .ok (.iconst 1, 1) := by decide +kernel
theorem dX7_placeOfRow_32 : decode cX7_placeOfRow 32 = .ok (.isub, 1) := by decide +kernel
theorem dX7_placeOfRow_33 : decode cX7_placeOfRow 33 = .ok (.iastore, 1) := by decide +kernel
theorem dX7_placeOfRow_34 : decode cX7_placeOfRow 34 = .ok (.iload 4, 2) := by decide +kernel
theorem dX7_placeOfRow_36 : decode cX7_placeOfRow 36 = .ok (.bipush 10, 2) := by decide +kernel
theorem dX7_placeOfRow_38 : decode cX7_placeOfRow 38 = .ok (.idiv, 1) := by decide +kernel
theorem dX7_placeOfRow_39 : decode cX7_placeOfRow 39 = .ok (.istore 4, 2) := by decide +kernel
theorem dX7_placeOfRow_41 : decode cX7_placeOfRow 41 = .ok (.iinc 5 (-1), 3) := by decide +kernel
theorem dX7_placeOfRow_44 : decode cX7_placeOfRow 44 = .ok (.goto (-29), 3) := by decide +kernel
theorem dX7_placeOfRow_47 : decode cX7_placeOfRow 47 = .ok (.iload_n 2, 1) := by decide +kernel
theorem dX7_placeOfRow_48 : decode cX7_placeOfRow 48 = .ok (.ifCond .lt 8, 3) := by decide +kernel
theorem dX7_placeOfRow_51 : decode cX7_placeOfRow 51 = .ok (.iload 4, 2) := by decide +kernel
theorem dX7_placeOfRow_53 : decode cX7_placeOfRow 53 = .ok (.ifCond .eq 5, 3) := by decide +kernel
theorem dX7_placeOfRow_56 : decode cX7_placeOfRow 56 = .ok (.iconst (-1), 1) := by decide +kernel
theorem dX7_placeOfRow_57 : decode cX7_placeOfRow 57 = .ok (.ireturn, 1) := by decide +kernel
theorem dX7_placeOfRow_58 : decode cX7_placeOfRow 58 = .ok (.aload_n 0, 1) := by decide +kernel
theorem dX7_placeOfRow_59 : decode cX7_placeOfRow 59 = .ok (.iload_n 1, 1) := by decide +kernel
theorem dX7_placeOfRow_60 : decode cX7_placeOfRow 60 = .ok (.invokevirtual 81, 3) := by decide +kernel
theorem dX7_placeOfRow_63 : decode cX7_placeOfRow 63 = .ok (.pop, 1) := by decide +kernel
theorem dX7_placeOfRow_64 : decode cX7_placeOfRow 64 = .ok (.iconst 0, 1) := by decide +kernel
theorem dX7_placeOfRow_65 : decode cX7_placeOfRow 65 = .ok (.istore 5, 2) := by decide +kernel
theorem dX7_placeOfRow_67 : decode cX7_placeOfRow 67 = .ok (.iconst 0, 1) := by decide +kernel
theorem dX7_placeOfRow_68 : decode cX7_placeOfRow 68 = .ok (.istore 6, 2) := by decide +kernel
theorem dX7_placeOfRow_70 : decode cX7_placeOfRow 70 = .ok (.iconst 0, 1) := by decide +kernel
theorem dX7_placeOfRow_71 : decode cX7_placeOfRow 71 = .ok (.istore 7, 2) := by decide +kernel
theorem dX7_placeOfRow_73 : decode cX7_placeOfRow 73 = .ok (.iload 7, 2) := by decide +kernel
theorem dX7_placeOfRow_75 : decode cX7_placeOfRow 75 = .ok (.iload_n 3, 1) := by decide +kernel
theorem dX7_placeOfRow_76 : decode cX7_placeOfRow 76 = .ok (.if_icmp .ge 150, 3) := by decide +kernel
theorem dX7_placeOfRow_79 : decode cX7_placeOfRow 79 = .ok (.aload_n 0, 1) := by decide +kernel
theorem dX7_placeOfRow_80 : decode cX7_placeOfRow 80 = .ok (.getfield 29, 3) := by decide +kernel
theorem dX7_placeOfRow_83 : decode cX7_placeOfRow 83 = .ok (.iload 7, 2) := by decide +kernel
theorem dX7_placeOfRow_85 : decode cX7_placeOfRow 85 = .ok (.iaload, 1) := by decide +kernel
theorem dX7_placeOfRow_86 : decode cX7_placeOfRow 86 = .ok (.istore 8, 2) := by decide +kernel
theorem dX7_placeOfRow_88 : decode cX7_placeOfRow 88 = .ok (.iload 8, 2) := by decide +kernel
theorem dX7_placeOfRow_90 : decode cX7_placeOfRow 90 = .ok (.iconst 0, 1) := by decide +kernel
theorem dX7_placeOfRow_91 : decode cX7_placeOfRow 91 = .ok (.iload_n 3, 1) := by decide +kernel
theorem dX7_placeOfRow_92 : decode cX7_placeOfRow 92 = .ok (.iconst 1, 1) := by decide +kernel
theorem dX7_placeOfRow_93 : decode cX7_placeOfRow 93 = .ok (.isub, 1) := by decide +kernel
theorem dX7_placeOfRow_94 : decode cX7_placeOfRow 94 = .ok (.invokestatic 39, 3) := by decide +kernel
theorem dX7_placeOfRow_97 : decode cX7_placeOfRow 97 = .ok (.ifCond .eq 33, 3) := by decide +kernel
theorem dX7_placeOfRow_100 : decode cX7_placeOfRow 100 = .ok (.iload 6, 2) := by decide +kernel
theorem dX7_placeOfRow_102 : decode cX7_placeOfRow 102 = .ok (.iload 8, 2) := by decide +kernel
theorem dX7_placeOfRow_104 : decode cX7_placeOfRow 104 = .ok (.invokestatic 47, 3) := by decide +kernel
theorem dX7_placeOfRow_107 : decode cX7_placeOfRow 107 = .ok (.ifCond .ne 23, 3) := by decide +kernel
theorem dX7_placeOfRow_110 : decode cX7_placeOfRow 110 = .ok (.aload_n 0, 1) := by decide +kernel
theorem dX7_placeOfRow_111 : decode cX7_placeOfRow 111 = .ok (.getfield 32, 3) := by decide +kernel
theorem dX7_placeOfRow_114 : decode cX7_placeOfRow 114 = .ok (.iload 8, 2) := by decide +kernel
theorem dX7_placeOfRow_116 : decode cX7_placeOfRow 116 = .ok (.iaload, 1) := by decide +kernel
theorem dX7_placeOfRow_117 : decode cX7_placeOfRow 117 = .ok (.iload 6, 2) := by decide +kernel
theorem dX7_placeOfRow_119 : decode cX7_placeOfRow 119 = .ok (.iand, 1) := by decide +kernel
theorem dX7_placeOfRow_120 : decode cX7_placeOfRow 120 = .ok (.aload_n 0, 1) := by decide +kernel
theorem dX7_placeOfRow_121 : decode cX7_placeOfRow 121 = .ok (.getfield 32, 3) := by decide +kernel
theorem dX7_placeOfRow_124 : decode cX7_placeOfRow 124 = .ok (.iload 8, 2) := by decide +kernel
theorem dX7_placeOfRow_126 : decode cX7_placeOfRow 126 = .ok (.iaload, 1) := by decide +kernel
theorem dX7_placeOfRow_127 : decode cX7_placeOfRow 127 = .ok (.if_icmp .eq 5, 3) := by decide +kernel
theorem dX7_placeOfRow_130 : decode cX7_placeOfRow 130 = .ok (.iconst (-1), 1) := by decide +kernel
theorem dX7_placeOfRow_131 : decode cX7_placeOfRow 131 = .ok (.ireturn, 1) := by decide +kernel
theorem dX7_placeOfRow_132 : decode cX7_placeOfRow 132 = .ok (.iconst 0, 1) := by decide +kernel
theorem dX7_placeOfRow_133 : decode cX7_placeOfRow 133 = .ok (.istore 9, 2) := by decide +kernel
theorem dX7_placeOfRow_135 : decode cX7_placeOfRow 135 = .ok (.iload 9, 2) := by decide +kernel
theorem dX7_placeOfRow_137 : decode cX7_placeOfRow 137 = .ok (.iload 8, 2) := by decide +kernel
theorem dX7_placeOfRow_139 : decode cX7_placeOfRow 139 = .ok (.if_icmp .ge 72, 3) := by decide +kernel
theorem dX7_placeOfRow_142 : decode cX7_placeOfRow 142 = .ok (.iload 6, 2) := by decide +kernel
theorem dX7_placeOfRow_144 : decode cX7_placeOfRow 144 = .ok (.iload 9, 2) := by decide +kernel
theorem dX7_placeOfRow_146 : decode cX7_placeOfRow 146 = .ok (.invokestatic 47, 3) := by decide +kernel
theorem dX7_placeOfRow_149 : decode cX7_placeOfRow 149 = .ok (.ifCond .ne 27, 3) := by decide +kernel
theorem dX7_placeOfRow_152 : decode cX7_placeOfRow 152 = .ok (.aload_n 0, 1) := by decide +kernel
theorem dX7_placeOfRow_153 : decode cX7_placeOfRow 153 = .ok (.getfield 32, 3) := by decide +kernel
theorem dX7_placeOfRow_156 : decode cX7_placeOfRow 156 = .ok (.iload 9, 2) := by decide +kernel
theorem dX7_placeOfRow_158 : decode cX7_placeOfRow 158 = .ok (.iaload, 1) := by decide +kernel
theorem dX7_placeOfRow_159 : decode cX7_placeOfRow 159 = .ok (.iload 6, 2) := by decide +kernel
theorem dX7_placeOfRow_161 : decode cX7_placeOfRow 161 = .ok (.iand, 1) := by decide +kernel
theorem dX7_placeOfRow_162 : decode cX7_placeOfRow 162 = .ok (.aload_n 0, 1) := by decide +kernel
theorem dX7_placeOfRow_163 : decode cX7_placeOfRow 163 = .ok (.getfield 32, 3) := by decide +kernel
theorem dX7_placeOfRow_166 : decode cX7_placeOfRow 166 = .ok (.iload 9, 2) := by decide +kernel
theorem dX7_placeOfRow_168 : decode cX7_placeOfRow 168 = .ok (.iaload, 1) := by decide +kernel
theorem dX7_placeOfRow_169 : decode cX7_placeOfRow 169 = .ok (.if_icmp .ne 7, 3) := by decide +kernel
theorem dX7_placeOfRow_172 : decode cX7_placeOfRow 172 = .ok (.iconst 1, 1) := by decide +kernel
theorem dX7_placeOfRow_173 : decode cX7_placeOfRow 173 = .ok (.goto 4, 3) := by decide +kernel
theorem dX7_placeOfRow_176 : decode cX7_placeOfRow 176 = .ok (.iconst 0, 1) := by decide +kernel
theorem dX7_placeOfRow_177 : decode cX7_placeOfRow 177 = .ok (.istore 10, 2) := by decide +kernel
theorem dX7_placeOfRow_179 : decode cX7_placeOfRow 179 = .ok (.iload 5, 2) := by decide +kernel
theorem dX7_placeOfRow_181 : decode cX7_placeOfRow 181 = .ok (.iload 10, 2) := by decide +kernel
theorem dX7_placeOfRow_183 : decode cX7_placeOfRow 183 = .ok (.ifCond .eq 18, 3) := by decide +kernel
theorem dX7_placeOfRow_186 : decode cX7_placeOfRow 186 = .ok (.aload_n 0, 1) := by decide +kernel
theorem dX7_placeOfRow_187 : decode cX7_placeOfRow 187 = .ok (.getfield 23, 3) := by decide +kernel
theorem dX7_placeOfRow_190 : decode cX7_placeOfRow 190 = .ok (.iload 6, 2) := by decide +kernel
theorem dX7_placeOfRow_192 : decode cX7_placeOfRow 192 = .ok (.iconst 1, 1) := by decide +kernel
theorem dX7_placeOfRow_193 : decode cX7_placeOfRow 193 = .ok (.iload 9, 2) := by decide +kernel
theorem dX7_placeOfRow_195 : decode cX7_placeOfRow 195 = .ok (.ishl, 1) := by decide +kernel
theorem dX7_placeOfRow_196 : decode cX7_placeOfRow 196 = .ok (.iadd, 1) := by decide +kernel
theorem dX7_placeOfRow_197 : decode cX7_placeOfRow 197 = .ok (.iaload, 1) := by decide +kernel
theorem dX7_placeOfRow_198 : decode cX7_placeOfRow 198 = .ok (.goto 4, 3) := by decide +kernel
theorem dX7_placeOfRow_201 : decode cX7_placeOfRow 201 = .ok (.iconst 0, 1) := by decide +kernel
theorem dX7_placeOfRow_202 : decode cX7_placeOfRow 202 = .ok (.iadd, 1) := by decide +kernel
theorem dX7_placeOfRow_203 : decode cX7_placeOfRow 203 = .ok (.istore 5, 2) := by decide +kernel
theorem dX7_placeOfRow_205 : decode cX7_placeOfRow 205 = .ok (.iinc 9 1, 3) := by decide +kernel
theorem dX7_placeOfRow_208 : decode cX7_placeOfRow 208 = .ok (.goto (-73), 3) := by decide +kernel
theorem dX7_placeOfRow_211 : decode cX7_placeOfRow 211 = .ok (.iload 6, 2) := by decide +kernel
theorem dX7_placeOfRow_213 : decode cX7_placeOfRow 213 = .ok (.iconst 1, 1) := by decide +kernel
theorem dX7_placeOfRow_214 : decode cX7_placeOfRow 214 = .ok (.iload 8, 2) := by decide +kernel
theorem dX7_placeOfRow_216 : decode cX7_placeOfRow 216 = .ok (.ishl, 1) := by decide +kernel
theorem dX7_placeOfRow_217 : decode cX7_placeOfRow 217 = .ok (.iadd, 1) := by decide +kernel
theorem dX7_placeOfRow_218 : decode cX7_placeOfRow 218 = .ok (.istore 6, 2) := by decide +kernel
theorem dX7_placeOfRow_220 : decode cX7_placeOfRow 220 = .ok (.iinc 7 1, 3) := by decide +kernel
theorem dX7_placeOfRow_223 : decode cX7_placeOfRow 223 = .ok (.goto (-150), 3) := by decide +kernel
theorem dX7_placeOfRow_226 : decode cX7_placeOfRow 226 = .ok (.iload 5, 2) := by decide +kernel
theorem dX7_placeOfRow_228 : decode cX7_placeOfRow 228 = .ok (.ireturn, 1) := by decide +kernel
theorem dX7_rows_0 : decode cX7_rows 0 = .ok (.aload_n 0, 1) := by decide +kernel
theorem dX7_rows_1 : decode cX7_rows 1 = .ok (.iload_n 1, 1) := by decide +kernel
theorem dX7_rows_2 : decode cX7_rows 2 = .ok (.invokestatic 43, 3) := by decide +kernel
theorem dX7_rows_5 : decode cX7_rows 5 = .ok (.iconst 1, 1) := by decide +kernel
theorem dX7_rows_6 : decode cX7_rows 6 = .ok (.invokevirtual 51, 3) := by decide +kernel
theorem dX7_rows_9 : decode cX7_rows 9 = .ok (.ifCond .eq 11, 3) := by decide +kernel
theorem dX7_rows_12 : decode cX7_rows 12 = .ok (.aload_n 0, 1) := by decide +kernel
theorem dX7_rows_13 : decode cX7_rows 13 = .ok (.iload_n 1, 1) := by decide +kernel
theorem dX7_rows_14 : decode cX7_rows 14 = .ok (.invokevirtual 81, 3) := by decide +kernel
theorem dX7_rows_17 : decode cX7_rows 17 = .ok (.goto 4, 3) := by decide +kernel
theorem dX7_rows_20 : decode cX7_rows 20 = .ok (.iconst 0, 1) := by decide +kernel
theorem dX7_rows_21 : decode cX7_rows 21 = .ok (.ireturn, 1) := by decide +kernel
theorem dX7_rowAt_0 : decode cX7_rowAt 0 = .ok (.aload_n 0, 1) := by decide +kernel
theorem dX7_rowAt_1 : decode cX7_rowAt 1 = .ok (.iload_n 1, 1) := by decide +kernel
theorem dX7_rowAt_2 : decode cX7_rowAt 2 = .ok (.invokestatic 43, 3) := by decide +kernel
theorem dX7_rowAt_5 : decode cX7_rowAt 5 = .ok (.ifCond .eq 20, 3) := by decide +kernel
theorem dX7_rowAt_8 : decode cX7_rowAt 8 = .ok (.iload_n 2, 1) := by decide +kernel
theorem dX7_rowAt_9 : decode cX7_rowAt 9 = .ok (.ifCond .lt 16, 3) := by decide +kernel
theorem dX7_rowAt_12 : decode cX7_rowAt 12 = .ok (.iload_n 2, 1) := by decide +kernel
theorem dX7_rowAt_13 : decode cX7_rowAt 13 = .ok (.aload_n 0, 1) := by decide +kernel
theorem dX7_rowAt_14 : decode cX7_rowAt 14 = .ok (.iload_n 1, 1) := by decide +kernel
theorem dX7_rowAt_15 : decode cX7_rowAt 15 = .ok (.invokevirtual 81, 3) := by decide +kernel
theorem dX7_rowAt_18 : decode cX7_rowAt 18 = .ok (.if_icmp .ge 7, 3) := by decide +kernel
theorem dX7_rowAt_21 : decode cX7_rowAt 21 = .ok (.iconst 1, 1) := by decide +kernel
theorem dX7_rowAt_22 : decode cX7_rowAt 22 = .ok (.goto 4, 3) := by decide +kernel
theorem dX7_rowAt_25 : decode cX7_rowAt 25 = .ok (.iconst 0, 1) := by decide +kernel
theorem dX7_rowAt_26 : decode cX7_rowAt 26 = .ok (.iconst 1, 1) := by decide +kernel
theorem dX7_rowAt_27 : decode cX7_rowAt 27 = .ok (.invokevirtual 51, 3) := by decide +kernel
theorem dX7_rowAt_30 : decode cX7_rowAt 30 = .ok (.ifCond .eq 12, 3) := by decide +kernel
theorem dX7_rowAt_33 : decode cX7_rowAt 33 = .ok (.aload_n 0, 1) := by decide +kernel
theorem dX7_rowAt_34 : decode cX7_rowAt 34 = .ok (.iload_n 1, 1) := by decide +kernel
theorem dX7_rowAt_35 : decode cX7_rowAt 35 = .ok (.iload_n 2, 1) := by decide +kernel
theorem dX7_rowAt_36 : decode cX7_rowAt 36 = .ok (.invokevirtual 84, 3) := by decide +kernel
theorem dX7_rowAt_39 : decode cX7_rowAt 39 = .ok (.goto 4, 3) := by decide +kernel
theorem dX7_rowAt_42 : decode cX7_rowAt 42 = .ok (.iconst 0, 1) := by decide +kernel
theorem dX7_rowAt_43 : decode cX7_rowAt 43 = .ok (.ireturn, 1) := by decide +kernel
theorem dX7_rowPlace_0 : decode cX7_rowPlace 0 = .ok (.aload_n 0, 1) := by decide +kernel
theorem dX7_rowPlace_1 : decode cX7_rowPlace 1 = .ok (.iload_n 1, 1) := by decide +kernel
theorem dX7_rowPlace_2 : decode cX7_rowPlace 2 = .ok (.invokestatic 43, 3) := by decide +kernel
theorem dX7_rowPlace_5 : decode cX7_rowPlace 5 = .ok (.iconst 1, 1) := by decide +kernel
theorem dX7_rowPlace_6 : decode cX7_rowPlace 6 = .ok (.invokevirtual 51, 3) := by decide +kernel
theorem dX7_rowPlace_9 : decode cX7_rowPlace 9 = .ok (.ifCond .eq 12, 3) := by decide +kernel
theorem dX7_rowPlace_12 : decode cX7_rowPlace 12 = .ok (.aload_n 0, 1) := by decide +kernel
theorem dX7_rowPlace_13 : decode cX7_rowPlace 13 = .ok (.iload_n 1, 1) := by decide +kernel
theorem dX7_rowPlace_14 : decode cX7_rowPlace 14 = .ok (.iload_n 2, 1) := by decide +kernel
theorem dX7_rowPlace_15 : decode cX7_rowPlace 15 = .ok (.invokevirtual 137, 3) := by decide +kernel
theorem dX7_rowPlace_18 : decode cX7_rowPlace 18 = .ok (.goto 4, 3) := by decide +kernel
theorem dX7_rowPlace_21 : decode cX7_rowPlace 21 = .ok (.iconst 0, 1) := by decide +kernel
theorem dX7_rowPlace_22 : decode cX7_rowPlace 22 = .ok (.ireturn, 1) := by decide +kernel
theorem dX7_nextRow_0 : decode cX7_nextRow 0 = .ok (.aload_n 0, 1) := by decide +kernel
theorem dX7_nextRow_1 : decode cX7_nextRow 1 = .ok (.iload_n 1, 1) := by decide +kernel
theorem dX7_nextRow_2 : decode cX7_nextRow 2 = .ok (.invokestatic 43, 3) := by decide +kernel
theorem dX7_nextRow_5 : decode cX7_nextRow 5 = .ok (.iconst 1, 1) := by decide +kernel
theorem dX7_nextRow_6 : decode cX7_nextRow 6 = .ok (.invokevirtual 51, 3) := by decide +kernel
theorem dX7_nextRow_9 : decode cX7_nextRow 9 = .ok (.ifCond .eq 26, 3) := by decide +kernel
theorem dX7_nextRow_12 : decode cX7_nextRow 12 = .ok (.aload_n 0, 1) := by decide +kernel
theorem dX7_nextRow_13 : decode cX7_nextRow 13 = .ok (.aload_n 0, 1) := by decide +kernel
theorem dX7_nextRow_14 : decode cX7_nextRow 14 = .ok (.iload_n 1, 1) := by decide +kernel
theorem dX7_nextRow_15 : decode cX7_nextRow 15 = .ok (.iload_n 2, 1) := by decide +kernel
theorem dX7_nextRow_16 : decode cX7_nextRow 16 = .ok (.invokevirtual 137, 3) := by decide +kernel
theorem dX7_nextRow_19 : decode cX7_nextRow 19 = .ok (.iconst (-1), 1) := by decide +kernel
theorem dX7_nextRow_20 : decode cX7_nextRow 20 = .ok (.if_icmp .eq 7, 3) := by decide +kernel
theorem dX7_nextRow_23 : decode cX7_nextRow 23 = .ok (.iconst 1, 1) := by decide +kernel
theorem dX7_nextRow_24 : decode cX7_nextRow 24 = .ok (.goto 4, 3) := by decide +kernel
theorem dX7_nextRow_27 : decode cX7_nextRow 27 = .ok (.iconst 0, 1) := by decide +kernel
theorem dX7_nextRow_28 : decode cX7_nextRow 28 = .ok (.iconst 2, 1) := by decide +kernel
theorem dX7_nextRow_29 : decode cX7_nextRow 29 = .ok (.invokevirtual 51, 3) := by decide +kernel
theorem dX7_nextRow_32 : decode cX7_nextRow 32 = .ok (.ifCond .ne 5, 3) := by decide +kernel
theorem dX7_nextRow_35 : decode cX7_nextRow 35 = .ok (.iconst 0, 1) := by decide +kernel
theorem dX7_nextRow_36 : decode cX7_nextRow 36 = .ok (.ireturn, 1) := by decide +kernel
theorem dX7_nextRow_37 : decode cX7_nextRow 37 = .ok (.aload_n 0, 1) := by decide +kernel
theorem dX7_nextRow_38 : decode cX7_nextRow 38 = .ok (.iload_n 1, 1) := by decide +kernel
theorem dX7_nextRow_39 : decode cX7_nextRow 39 = .ok (.iload_n 2, 1) := by decide +kernel
theorem dX7_nextRow_40 : decode cX7_nextRow 40 = .ok (.invokevirtual 137, 3) := by decide +kernel
theorem dX7_nextRow_43 : decode cX7_nextRow 43 = .ok (.iconst 1, 1) := by decide +kernel
theorem dX7_nextRow_44 : decode cX7_nextRow 44 = .ok (.iadd, 1) := by decide +kernel
theorem dX7_nextRow_45 : decode cX7_nextRow 45 = .ok (.istore_n 3, 1) := by decide +kernel
theorem dX7_nextRow_46 : decode cX7_nextRow 46 = .ok (.iload_n 3, 1) := by decide +kernel
theorem dX7_nextRow_47 : decode cX7_nextRow 47 = .ok (.aload_n 0, 1) := by decide +kernel
theorem dX7_nextRow_48 : decode cX7_nextRow 48 = .ok (.iload_n 1, 1) := by decide +kernel
theorem dX7_nextRow_49 : decode cX7_nextRow 49 = .ok (.invokevirtual 81, 3) := by decide +kernel
theorem dX7_nextRow_52 : decode cX7_nextRow 52 = .ok (.if_icmp .ge 12, 3) := by decide +kernel
theorem dX7_nextRow_55 : decode cX7_nextRow 55 = .ok (.aload_n 0, 1) := by decide +kernel
theorem dX7_nextRow_56 : decode cX7_nextRow 56 = .ok (.iload_n 1, 1) := by decide +kernel
theorem dX7_nextRow_57 : decode cX7_nextRow 57 = .ok (.iload_n 3, 1) := by decide +kernel
theorem dX7_nextRow_58 : decode cX7_nextRow 58 = .ok (.invokevirtual 84, 3) := by decide +kernel
theorem dX7_nextRow_61 : decode cX7_nextRow 61 = .ok (.goto 4, 3) := by decide +kernel
theorem dX7_nextRow_64 : decode cX7_nextRow 64 = .ok (.iconst (-1), 1) := by decide +kernel
theorem dX7_nextRow_65 : decode cX7_nextRow 65 = .ok (.ireturn, 1) := by decide +kernel
theorem dX7_with_0 : decode cX7_with 0 = .ok (.iload_n 2, 1) := by decide +kernel
theorem dX7_with_1 : decode cX7_with 1 = .ok (.iload_n 3, 1) := by decide +kernel
theorem dX7_with_2 : decode cX7_with 2 = .ok (.if_icmp .ne 7, 3) := by decide +kernel
theorem dX7_with_5 : decode cX7_with 5 = .ok (.iconst 0, 1) := by decide +kernel
theorem dX7_with_6 : decode cX7_with 6 = .ok (.goto 11, 3) := by decide +kernel
theorem dX7_with_9 : decode cX7_with 9 = .ok (.aload_n 0, 1) := by decide +kernel
theorem dX7_with_10 : decode cX7_with 10 = .ok (.iload_n 1, 1) := by decide +kernel
theorem dX7_with_11 : decode cX7_with 11 = .ok (.iload_n 2, 1) := by decide +kernel
theorem dX7_with_12 : decode cX7_with 12 = .ok (.iload_n 3, 1) := by decide +kernel
theorem dX7_with_13 : decode cX7_with 13 = .ok (.iconst 0, 1) := by decide +kernel
theorem dX7_with_14 : decode cX7_with 14 = .ok (.invokevirtual 133, 3) := by decide +kernel
theorem dX7_with_17 : decode cX7_with 17 = .ok (.ireturn, 1) := by decide +kernel
theorem dX7_at_0 : decode cX7_at 0 = .ok (.iload_n 3, 1) := by decide +kernel
theorem dX7_at_1 : decode cX7_at 1 = .ok (.iconst 0, 1) := by decide +kernel
theorem dX7_at_2 : decode cX7_at 2 = .ok (.aload_n 0, 1) := by decide +kernel
theorem dX7_at_3 : decode cX7_at 3 = .ok (.getfield 9, 3) := by decide +kernel
theorem dX7_at_6 : decode cX7_at 6 = .ok (.iload_n 1, 1) := by decide +kernel
theorem dX7_at_7 : decode cX7_at 7 = .ok (.iaload, 1) := by decide +kernel
theorem dX7_at_8 : decode cX7_at 8 = .ok (.iconst 1, 1) := by decide +kernel
theorem dX7_at_9 : decode cX7_at 9 = .ok (.isub, 1) := by decide +kernel
theorem dX7_at_10 : decode cX7_at 10 = .ok (.invokestatic 39, 3) := by decide +kernel
theorem dX7_at_13 : decode cX7_at 13 = .ok (.ifCond .eq 14, 3) := by decide +kernel
theorem dX7_at_16 : decode cX7_at 16 = .ok (.aload_n 0, 1) := by decide +kernel
theorem dX7_at_17 : decode cX7_at 17 = .ok (.iload_n 1, 1) := by decide +kernel
theorem dX7_at_18 : decode cX7_at 18 = .ok (.iload_n 2, 1) := by decide +kernel
theorem dX7_at_19 : decode cX7_at 19 = .ok (.iload_n 3, 1) := by decide +kernel
theorem dX7_at_20 : decode cX7_at 20 = .ok (.iconst 1, 1) := by decide +kernel
theorem dX7_at_21 : decode cX7_at 21 = .ok (.invokevirtual 133, 3) := by decide +kernel
theorem dX7_at_24 : decode cX7_at 24 = .ok (.goto 4, 3) := by decide +kernel
theorem dX7_at_27 : decode cX7_at 27 = .ok (.iconst 0, 1) := by decide +kernel
theorem dX7_at_28 : decode cX7_at 28 = .ok (.ireturn, 1) := by decide +kernel
theorem dX7_rowsWith_0 : decode cX7_rowsWith 0 = .ok (.aload_n 0, 1) := by decide +kernel
theorem dX7_rowsWith_1 : decode cX7_rowsWith 1 = .ok (.aload_n 0, 1) := by decide +kernel
theorem dX7_rowsWith_2 : decode cX7_rowsWith 2 = .ok (.iload_n 1, 1) := by decide +kernel
theorem dX7_rowsWith_3 : decode cX7_rowsWith 3 = .ok (.iload_n 2, 1) := by decide +kernel
theorem dX7_rowsWith_4 : decode cX7_rowsWith 4 = .ok (.invokevirtual 66, 3) := by decide +kernel
theorem dX7_rowsWith_7 : decode cX7_rowsWith 7 = .ok (.ifCond .eq 16, 3) := by decide +kernel
theorem dX7_rowsWith_10 : decode cX7_rowsWith 10 = .ok (.aload_n 0, 1) := by decide +kernel
theorem dX7_rowsWith_11 : decode cX7_rowsWith 11 = .ok (.iload_n 1, 1) := by decide +kernel
theorem dX7_rowsWith_12 : decode cX7_rowsWith 12 = .ok (.iload_n 3, 1) := by decide +kernel
theorem dX7_rowsWith_13 : decode cX7_rowsWith 13 = .ok (.invokevirtual 66, 3) := by decide +kernel
theorem dX7_rowsWith_16 : decode cX7_rowsWith 16 = .ok (.ifCond .eq 7, 3) := by decide +kernel
theorem dX7_rowsWith_19 : decode cX7_rowsWith 19 = .ok (.iconst 1, 1) := by decide +kernel
theorem dX7_rowsWith_20 : decode cX7_rowsWith 20 = .ok (.goto 4, 3) := by decide +kernel
theorem dX7_rowsWith_23 : decode cX7_rowsWith 23 = .ok (.iconst 0, 1) := by decide +kernel
theorem dX7_rowsWith_24 : decode cX7_rowsWith 24 = .ok (.iconst 1, 1) := by decide +kernel
theorem dX7_rowsWith_25 : decode cX7_rowsWith 25 = .ok (.invokevirtual 51, 3) := by decide +kernel
theorem dX7_rowsWith_28 : decode cX7_rowsWith 28 = .ok (.ifCond .eq 13, 3) := by decide +kernel
theorem dX7_rowsWith_31 : decode cX7_rowsWith 31 = .ok (.aload_n 0, 1) := by decide +kernel
theorem dX7_rowsWith_32 : decode cX7_rowsWith 32 = .ok (.iload_n 1, 1) := by decide +kernel
theorem dX7_rowsWith_33 : decode cX7_rowsWith 33 = .ok (.iload_n 2, 1) := by decide +kernel
theorem dX7_rowsWith_34 : decode cX7_rowsWith 34 = .ok (.iload_n 3, 1) := by decide +kernel
theorem dX7_rowsWith_35 : decode cX7_rowsWith 35 = .ok (.invokevirtual 140, 3) := by decide +kernel
theorem dX7_rowsWith_38 : decode cX7_rowsWith 38 = .ok (.goto 4, 3) := by decide +kernel
theorem dX7_rowsWith_41 : decode cX7_rowsWith 41 = .ok (.iconst 0, 1) := by decide +kernel
theorem dX7_rowsWith_42 : decode cX7_rowsWith 42 = .ok (.ireturn, 1) := by decide +kernel
theorem dX7_rowsAt_0 : decode cX7_rowsAt 0 = .ok (.aload_n 0, 1) := by decide +kernel
theorem dX7_rowsAt_1 : decode cX7_rowsAt 1 = .ok (.aload_n 0, 1) := by decide +kernel
theorem dX7_rowsAt_2 : decode cX7_rowsAt 2 = .ok (.iload_n 1, 1) := by decide +kernel
theorem dX7_rowsAt_3 : decode cX7_rowsAt 3 = .ok (.iload_n 2, 1) := by decide +kernel
theorem dX7_rowsAt_4 : decode cX7_rowsAt 4 = .ok (.invokevirtual 66, 3) := by decide +kernel
theorem dX7_rowsAt_7 : decode cX7_rowsAt 7 = .ok (.iconst 1, 1) := by decide +kernel
theorem dX7_rowsAt_8 : decode cX7_rowsAt 8 = .ok (.invokevirtual 51, 3) := by decide +kernel
theorem dX7_rowsAt_11 : decode cX7_rowsAt 11 = .ok (.ifCond .eq 13, 3) := by decide +kernel
theorem dX7_rowsAt_14 : decode cX7_rowsAt 14 = .ok (.aload_n 0, 1) := by decide +kernel
theorem dX7_rowsAt_15 : decode cX7_rowsAt 15 = .ok (.iload_n 1, 1) := by decide +kernel
theorem dX7_rowsAt_16 : decode cX7_rowsAt 16 = .ok (.iload_n 2, 1) := by decide +kernel
theorem dX7_rowsAt_17 : decode cX7_rowsAt 17 = .ok (.iload_n 3, 1) := by decide +kernel
theorem dX7_rowsAt_18 : decode cX7_rowsAt 18 = .ok (.invokevirtual 144, 3) := by decide +kernel
theorem dX7_rowsAt_21 : decode cX7_rowsAt 21 = .ok (.goto 4, 3) := by decide +kernel
theorem dX7_rowsAt_24 : decode cX7_rowsAt 24 = .ok (.iconst 0, 1) := by decide +kernel
theorem dX7_rowsAt_25 : decode cX7_rowsAt 25 = .ok (.ireturn, 1) := by decide +kernel
theorem dX7_meanPlace_0 : decode cX7_meanPlace 0 = .ok (.aload_n 0, 1) := by decide +kernel
theorem dX7_meanPlace_1 : decode cX7_meanPlace 1 = .ok (.aload_n 0, 1) := by decide +kernel
theorem dX7_meanPlace_2 : decode cX7_meanPlace 2 = .ok (.iload_n 1, 1) := by decide +kernel
theorem dX7_meanPlace_3 : decode cX7_meanPlace 3 = .ok (.iload_n 2, 1) := by decide +kernel
theorem dX7_meanPlace_4 : decode cX7_meanPlace 4 = .ok (.invokevirtual 66, 3) := by decide +kernel
theorem dX7_meanPlace_7 : decode cX7_meanPlace 7 = .ok (.iconst 1, 1) := by decide +kernel
theorem dX7_meanPlace_8 : decode cX7_meanPlace 8 = .ok (.invokevirtual 51, 3) := by decide +kernel
theorem dX7_meanPlace_11 : decode cX7_meanPlace 11 = .ok (.ifCond .ne 5, 3) := by decide +kernel
theorem dX7_meanPlace_14 : decode cX7_meanPlace 14 = .ok (.dconst 0, 1) := by decide +kernel
theorem dX7_meanPlace_15 : decode cX7_meanPlace 15 = .ok (.dreturn, 1) := by decide +kernel
theorem dX7_meanPlace_16 : decode cX7_meanPlace 16 = .ok (.iconst 0, 1) := by decide +kernel
theorem dX7_meanPlace_17 : decode cX7_meanPlace 17 = .ok (.istore_n 3, 1) := by decide +kernel
theorem dX7_meanPlace_18 : decode cX7_meanPlace 18 = .ok (.iconst 0, 1) := by decide +kernel
theorem dX7_meanPlace_19 : decode cX7_meanPlace 19 = .ok (.istore 4, 2) := by decide +kernel
theorem dX7_meanPlace_21 : decode cX7_meanPlace 21 = .ok (.iload 4, 2) := by decide +kernel
theorem dX7_meanPlace_23 : decode cX7_meanPlace 23 = .ok (.aload_n 0, 1) := by decide +kernel
theorem dX7_meanPlace_24 : decode cX7_meanPlace 24 = .ok (.getfield 9, 3) := by decide +kernel
theorem dX7_meanPlace_27 : decode cX7_meanPlace 27 = .ok (.iload_n 1, 1) := by decide +kernel
theorem dX7_meanPlace_28 : decode cX7_meanPlace 28 = .ok (.iaload, 1) := by decide +kernel
theorem dX7_meanPlace_29 : decode cX7_meanPlace 29 = .ok (.if_icmp .ge 23, 3) := by decide +kernel
theorem dX7_meanPlace_32 : decode cX7_meanPlace 32 = .ok (.iload_n 3, 1) := by decide +kernel
theorem dX7_meanPlace_33 : decode cX7_meanPlace 33 = .ok (.iload 4, 2) := by decide +kernel
theorem dX7_meanPlace_35 : decode cX7_meanPlace 35 = .ok (.aload_n 0, 1) := by decide +kernel
theorem dX7_meanPlace_36 : decode cX7_meanPlace 36 = .ok (.iload_n 1, 1) := by decide +kernel
theorem dX7_meanPlace_37 : decode cX7_meanPlace 37 = .ok (.iload_n 2, 1) := by decide +kernel
theorem dX7_meanPlace_38 : decode cX7_meanPlace 38 = .ok (.iload 4, 2) := by decide +kernel
theorem dX7_meanPlace_40 : decode cX7_meanPlace 40 = .ok (.invokevirtual 144, 3) := by decide +kernel
theorem dX7_meanPlace_43 : decode cX7_meanPlace 43 = .ok (.imul, 1) := by decide +kernel
theorem dX7_meanPlace_44 : decode cX7_meanPlace 44 = .ok (.iadd, 1) := by decide +kernel
theorem dX7_meanPlace_45 : decode cX7_meanPlace 45 = .ok (.istore_n 3, 1) := by decide +kernel
theorem dX7_meanPlace_46 : decode cX7_meanPlace 46 = .ok (.iinc 4 1, 3) := by decide +kernel
theorem dX7_meanPlace_49 : decode cX7_meanPlace 49 = .ok (.goto (-28), 3) := by decide +kernel
theorem dX7_meanPlace_52 : decode cX7_meanPlace 52 = .ok (.iload_n 3, 1) := by decide +kernel
theorem dX7_meanPlace_53 : decode cX7_meanPlace 53 = .ok (.i2d, 1) := by decide +kernel
theorem dX7_meanPlace_54 : decode cX7_meanPlace 54 = .ok (.aload_n 0, 1) := by decide +kernel
theorem dX7_meanPlace_55 : decode cX7_meanPlace 55 = .ok (.iload_n 1, 1) := by decide +kernel
theorem dX7_meanPlace_56 : decode cX7_meanPlace 56 = .ok (.invokevirtual 81, 3) := by decide +kernel
theorem dX7_meanPlace_59 : decode cX7_meanPlace 59 = .ok (.i2d, 1) := by decide +kernel
theorem dX7_meanPlace_60 : decode cX7_meanPlace 60 = .ok (.ddiv, 1) := by decide +kernel
theorem dX7_meanPlace_61 : decode cX7_meanPlace 61 = .ok (.dreturn, 1) := by decide +kernel
theorem dX7_share_0 : decode cX7_share 0 = .ok (.aload_n 0, 1) := by decide +kernel
theorem dX7_share_1 : decode cX7_share 1 = .ok (.aload_n 0, 1) := by decide +kernel
theorem dX7_share_2 : decode cX7_share 2 = .ok (.iload_n 1, 1) := by decide +kernel
theorem dX7_share_3 : decode cX7_share 3 = .ok (.iload_n 2, 1) := by decide +kernel
theorem dX7_share_4 : decode cX7_share 4 = .ok (.invokevirtual 66, 3) := by decide +kernel
theorem dX7_share_7 : decode cX7_share 7 = .ok (.ifCond .eq 16, 3) := by decide +kernel
theorem dX7_share_10 : decode cX7_share 10 = .ok (.aload_n 0, 1) := by decide +kernel
theorem dX7_share_11 : decode cX7_share 11 = .ok (.iload_n 1, 1) := by decide +kernel
theorem dX7_share_12 : decode cX7_share 12 = .ok (.iload_n 3, 1) := by decide +kernel
theorem dX7_share_13 : decode cX7_share 13 = .ok (.invokevirtual 66, 3) := by decide +kernel
theorem dX7_share_16 : decode cX7_share 16 = .ok (.ifCond .eq 7, 3) := by decide +kernel
theorem dX7_share_19 : decode cX7_share 19 = .ok (.iconst 1, 1) := by decide +kernel
theorem dX7_share_20 : decode cX7_share 20 = .ok (.goto 4, 3) := by decide +kernel
theorem dX7_share_23 : decode cX7_share 23 = .ok (.iconst 0, 1) := by decide +kernel
theorem dX7_share_24 : decode cX7_share 24 = .ok (.iconst 1, 1) := by decide +kernel
theorem dX7_share_25 : decode cX7_share 25 = .ok (.invokevirtual 51, 3) := by decide +kernel
theorem dX7_share_28 : decode cX7_share 28 = .ok (.ifCond .ne 5, 3) := by decide +kernel
theorem dX7_share_31 : decode cX7_share 31 = .ok (.fconst 0, 1) := by decide +kernel
theorem dX7_share_32 : decode cX7_share 32 = .ok (.freturn, 1) := by decide +kernel
theorem dX7_share_33 : decode cX7_share 33 = .ok (.aload_n 0, 1) := by decide +kernel
theorem dX7_share_34 : decode cX7_share 34 = .ok (.iload_n 1, 1) := by decide +kernel
theorem dX7_share_35 : decode cX7_share 35 = .ok (.iload_n 2, 1) := by decide +kernel
theorem dX7_share_36 : decode cX7_share 36 = .ok (.iload_n 3, 1) := by decide +kernel
theorem dX7_share_37 : decode cX7_share 37 = .ok (.invokevirtual 140, 3) := by decide +kernel
theorem dX7_share_40 : decode cX7_share 40 = .ok (.istore 4, 2) := by decide +kernel
theorem dX7_share_42 : decode cX7_share 42 = .ok (.iload 4, 2) := by decide +kernel
theorem dX7_share_44 : decode cX7_share 44 = .ok (.i2f, 1) := by decide +kernel
theorem dX7_share_45 : decode cX7_share 45 = .ok (.aload_n 0, 1) := by decide +kernel
theorem dX7_share_46 : decode cX7_share 46 = .ok (.iload_n 1, 1) := by decide +kernel
theorem dX7_share_47 : decode cX7_share 47 = .ok (.invokevirtual 81, 3) := by decide +kernel
theorem dX7_share_50 : decode cX7_share 50 = .ok (.i2f, 1) := by decide +kernel
theorem dX7_share_51 : decode cX7_share 51 = .ok (.fdiv, 1) := by decide +kernel
theorem dX7_share_52 : decode cX7_share 52 = .ok (.freturn, 1) := by decide +kernel
theorem dX7_sumOf_0 : decode cX7_sumOf 0 = .ok (.iconst 0, 1) := by decide +kernel
theorem dX7_sumOf_1 : decode cX7_sumOf 1 = .ok (.istore_n 3, 1) := by decide +kernel
theorem dX7_sumOf_2 : decode cX7_sumOf 2 = .ok (.iconst 0, 1) := by decide +kernel
theorem dX7_sumOf_3 : decode cX7_sumOf 3 = .ok (.istore 4, 2) := by decide +kernel
theorem dX7_sumOf_5 : decode cX7_sumOf 5 = .ok (.iload 4, 2) := by decide +kernel
theorem dX7_sumOf_7 : decode cX7_sumOf 7 = .ok (.aload_n 0, 1) := by decide +kernel
theorem dX7_sumOf_8 : decode cX7_sumOf 8 = .ok (.getfield 9, 3) := by decide +kernel
theorem dX7_sumOf_11 : decode cX7_sumOf 11 = .ok (.iload_n 1, 1) := by decide +kernel
theorem dX7_sumOf_12 : decode cX7_sumOf 12 = .ok (.iaload, 1) := by decide +kernel
theorem dX7_sumOf_13 : decode cX7_sumOf 13 = .ok (.if_icmp .ge 36, 3) := by decide +kernel
theorem dX7_sumOf_16 : decode cX7_sumOf 16 = .ok (.iload_n 3, 1) := by decide +kernel
theorem dX7_sumOf_17 : decode cX7_sumOf 17 = .ok (.aload_n 0, 1) := by decide +kernel
theorem dX7_sumOf_18 : decode cX7_sumOf 18 = .ok (.iload_n 1, 1) := by decide +kernel
theorem dX7_sumOf_19 : decode cX7_sumOf 19 = .ok (.iload 4, 2) := by decide +kernel
theorem dX7_sumOf_21 : decode cX7_sumOf 21 = .ok (.iload_n 2, 1) := by decide +kernel
theorem dX7_sumOf_22 : decode cX7_sumOf 22 = .ok (.invokevirtual 75, 3) := by decide +kernel
theorem dX7_sumOf_25 : decode cX7_sumOf 25 = .ok (.ifCond .eq 15, 3) := by decide +kernel
theorem dX7_sumOf_28 : decode cX7_sumOf 28 = .ok (.aload_n 0, 1) := by decide +kernel
theorem dX7_sumOf_29 : decode cX7_sumOf 29 = .ok (.getfield 15, 3) := by decide +kernel
theorem dX7_sumOf_32 : decode cX7_sumOf 32 = .ok (.iload_n 1, 1) := by decide +kernel
theorem dX7_sumOf_33 : decode cX7_sumOf 33 = .ok (.aaload, 1) := by decide +kernel
theorem dX7_sumOf_34 : decode cX7_sumOf 34 = .ok (.iload 4, 2) := by decide +kernel
theorem dX7_sumOf_36 : decode cX7_sumOf 36 = .ok (.iaload, 1) := by decide +kernel
theorem dX7_sumOf_37 : decode cX7_sumOf 37 = .ok (.goto 4, 3) := by decide +kernel
theorem dX7_sumOf_40 : decode cX7_sumOf 40 = .ok (.iconst 0, 1) := by decide +kernel
theorem dX7_sumOf_41 : decode cX7_sumOf 41 = .ok (.iadd, 1) := by decide +kernel
theorem dX7_sumOf_42 : decode cX7_sumOf 42 = .ok (.istore_n 3, 1) := by decide +kernel
theorem dX7_sumOf_43 : decode cX7_sumOf 43 = .ok (.iinc 4 1, 3) := by decide +kernel
theorem dX7_sumOf_46 : decode cX7_sumOf 46 = .ok (.goto (-41), 3) := by decide +kernel
theorem dX7_sumOf_49 : decode cX7_sumOf 49 = .ok (.iload_n 3, 1) := by decide +kernel
theorem dX7_sumOf_50 : decode cX7_sumOf 50 = .ok (.ireturn, 1) := by decide +kernel
theorem dX7_numberOf_0 : decode cX7_numberOf 0 = .ok (.iload_n 2, 1) := by decide +kernel
theorem dX7_numberOf_1 : decode cX7_numberOf 1 = .ok (.iload_n 3, 1) := by decide +kernel
theorem dX7_numberOf_2 : decode cX7_numberOf 2 = .ok (.if_icmp .ne 5, 3) := by decide +kernel
theorem dX7_numberOf_5 : decode cX7_numberOf 5 = .ok (.iconst 1, 1) := by decide +kernel
theorem dX7_numberOf_6 : decode cX7_numberOf 6 = .ok (.ireturn, 1) := by decide +kernel
theorem dX7_numberOf_7 : decode cX7_numberOf 7 = .ok (.iconst 0, 1) := by decide +kernel
theorem dX7_numberOf_8 : decode cX7_numberOf 8 = .ok (.istore 4, 2) := by decide +kernel
theorem dX7_numberOf_10 : decode cX7_numberOf 10 = .ok (.iconst 0, 1) := by decide +kernel
theorem dX7_numberOf_11 : decode cX7_numberOf 11 = .ok (.istore 5, 2) := by decide +kernel
theorem dX7_numberOf_13 : decode cX7_numberOf 13 = .ok (.iload 5, 2) := by decide +kernel
theorem dX7_numberOf_15 : decode cX7_numberOf 15 = .ok (.aload_n 0, 1) := by decide +kernel
theorem dX7_numberOf_16 : decode cX7_numberOf 16 = .ok (.getfield 9, 3) := by decide +kernel
theorem dX7_numberOf_19 : decode cX7_numberOf 19 = .ok (.iload_n 1, 1) := by decide +kernel
theorem dX7_numberOf_20 : decode cX7_numberOf 20 = .ok (.iaload, 1) := by decide +kernel
theorem dX7_numberOf_21 : decode cX7_numberOf 21 = .ok (.if_icmp .ge 51, 3) := by decide +kernel
theorem dX7_numberOf_24 : decode cX7_numberOf 24 = .ok (.iload 4, 2) := by decide +kernel
theorem dX7_numberOf_26 : decode cX7_numberOf 26 = .ok (.aload_n 0, 1) := by decide +kernel
theorem dX7_numberOf_27 : decode cX7_numberOf 27 = .ok (.iload_n 1, 1) := by decide +kernel
theorem dX7_numberOf_28 : decode cX7_numberOf 28 = .ok (.iload_n 2, 1) := by decide +kernel
theorem dX7_numberOf_29 : decode cX7_numberOf 29 = .ok (.iload 5, 2) := by decide +kernel
theorem dX7_numberOf_31 : decode cX7_numberOf 31 = .ok (.invokevirtual 75, 3) := by decide +kernel
theorem dX7_numberOf_34 : decode cX7_numberOf 34 = .ok (.ifCond .eq 28, 3) := by decide +kernel
theorem dX7_numberOf_37 : decode cX7_numberOf 37 = .ok (.aload_n 0, 1) := by decide +kernel
theorem dX7_numberOf_38 : decode cX7_numberOf 38 = .ok (.getfield 20, 3) := by decide +kernel
theorem dX7_numberOf_41 : decode cX7_numberOf 41 = .ok (.iload_n 1, 1) := by decide +kernel
theorem dX7_numberOf_42 : decode cX7_numberOf 42 = .ok (.aaload, 1) := by decide +kernel
theorem dX7_numberOf_43 : decode cX7_numberOf 43 = .ok (.iload 5, 2) := by decide +kernel
theorem dX7_numberOf_45 : decode cX7_numberOf 45 = .ok (.aaload, 1) := by decide +kernel
theorem dX7_numberOf_46 : decode cX7_numberOf 46 = .ok (.iload_n 3, 1) := by decide +kernel
theorem dX7_numberOf_47 : decode cX7_numberOf 47 = .ok (.baload, 1) := by decide +kernel
theorem dX7_numberOf_48 : decode cX7_numberOf 48 = .ok (.ifCond .eq 14, 3) := by decide +kernel
theorem dX7_numberOf_51 : decode cX7_numberOf 51 = .ok (.aload_n 0, 1) := by decide +kernel
theorem dX7_numberOf_52 : decode cX7_numberOf 52 = .ok (.iload_n 1, 1) := by decide +kernel
theorem dX7_numberOf_53 : decode cX7_numberOf 53 = .ok (.iload_n 2, 1) := by decide +kernel
theorem dX7_numberOf_54 : decode cX7_numberOf 54 = .ok (.iload 5, 2) := by decide +kernel
theorem dX7_numberOf_56 : decode cX7_numberOf 56 = .ok (.invokevirtual 147, 3) := by decide +kernel
theorem dX7_numberOf_59 : decode cX7_numberOf 59 = .ok (.goto 4, 3) := by decide +kernel
theorem dX7_numberOf_62 : decode cX7_numberOf 62 = .ok (.iconst 0, 1) := by decide +kernel
theorem dX7_numberOf_63 : decode cX7_numberOf 63 = .ok (.iadd, 1) := by decide +kernel
theorem dX7_numberOf_64 : decode cX7_numberOf 64 = .ok (.istore 4, 2) := by decide +kernel
theorem dX7_numberOf_66 : decode cX7_numberOf 66 = .ok (.iinc 5 1, 3) := by decide +kernel
theorem dX7_numberOf_69 : decode cX7_numberOf 69 = .ok (.goto (-56), 3) := by decide +kernel
theorem dX7_numberOf_72 : decode cX7_numberOf 72 = .ok (.iload 4, 2) := by decide +kernel
theorem dX7_numberOf_74 : decode cX7_numberOf 74 = .ok (.ineg, 1) := by decide +kernel
theorem dX7_numberOf_75 : decode cX7_numberOf 75 = .ok (.ireturn, 1) := by decide +kernel
theorem dX7_sum_0 : decode cX7_sum 0 = .ok (.aload_n 0, 1) := by decide +kernel
theorem dX7_sum_1 : decode cX7_sum 1 = .ok (.aload_n 0, 1) := by decide +kernel
theorem dX7_sum_2 : decode cX7_sum 2 = .ok (.iload_n 1, 1) := by decide +kernel
theorem dX7_sum_3 : decode cX7_sum 3 = .ok (.iload_n 2, 1) := by decide +kernel
theorem dX7_sum_4 : decode cX7_sum 4 = .ok (.invokevirtual 66, 3) := by decide +kernel
theorem dX7_sum_7 : decode cX7_sum 7 = .ok (.iconst 1, 1) := by decide +kernel
theorem dX7_sum_8 : decode cX7_sum 8 = .ok (.invokevirtual 51, 3) := by decide +kernel
theorem dX7_sum_11 : decode cX7_sum 11 = .ok (.ifCond .eq 12, 3) := by decide +kernel
theorem dX7_sum_14 : decode cX7_sum 14 = .ok (.aload_n 0, 1) := by decide +kernel
theorem dX7_sum_15 : decode cX7_sum 15 = .ok (.iload_n 1, 1) := by decide +kernel
theorem dX7_sum_16 : decode cX7_sum 16 = .ok (.iload_n 2, 1) := by decide +kernel
theorem dX7_sum_17 : decode cX7_sum 17 = .ok (.invokevirtual 150, 3) := by decide +kernel
theorem dX7_sum_20 : decode cX7_sum 20 = .ok (.goto 4, 3) := by decide +kernel
theorem dX7_sum_23 : decode cX7_sum 23 = .ok (.iconst 0, 1) := by decide +kernel
theorem dX7_sum_24 : decode cX7_sum 24 = .ok (.ireturn, 1) := by decide +kernel
theorem dX7_number_0 : decode cX7_number 0 = .ok (.aload_n 0, 1) := by decide +kernel
theorem dX7_number_1 : decode cX7_number 1 = .ok (.aload_n 0, 1) := by decide +kernel
theorem dX7_number_2 : decode cX7_number 2 = .ok (.iload_n 1, 1) := by decide +kernel
theorem dX7_number_3 : decode cX7_number 3 = .ok (.iload_n 2, 1) := by decide +kernel
theorem dX7_number_4 : decode cX7_number 4 = .ok (.invokevirtual 66, 3) := by decide +kernel
theorem dX7_number_7 : decode cX7_number 7 = .ok (.ifCond .eq 16, 3) := by decide +kernel
theorem dX7_number_10 : decode cX7_number 10 = .ok (.aload_n 0, 1) := by decide +kernel
theorem dX7_number_11 : decode cX7_number 11 = .ok (.iload_n 1, 1) := by decide +kernel
theorem dX7_number_12 : decode cX7_number 12 = .ok (.iload_n 3, 1) := by decide +kernel
theorem dX7_number_13 : decode cX7_number 13 = .ok (.invokevirtual 66, 3) := by decide +kernel
theorem dX7_number_16 : decode cX7_number 16 = .ok (.ifCond .eq 7, 3) := by decide +kernel
theorem dX7_number_19 : decode cX7_number 19 = .ok (.iconst 1, 1) := by decide +kernel
theorem dX7_number_20 : decode cX7_number 20 = .ok (.goto 4, 3) := by decide +kernel
theorem dX7_number_23 : decode cX7_number 23 = .ok (.iconst 0, 1) := by decide +kernel
theorem dX7_number_24 : decode cX7_number 24 = .ok (.iconst 1, 1) := by decide +kernel
theorem dX7_number_25 : decode cX7_number 25 = .ok (.invokevirtual 51, 3) := by decide +kernel
theorem dX7_number_28 : decode cX7_number 28 = .ok (.ifCond .eq 13, 3) := by decide +kernel
theorem dX7_number_31 : decode cX7_number 31 = .ok (.aload_n 0, 1) := by decide +kernel
theorem dX7_number_32 : decode cX7_number 32 = .ok (.iload_n 1, 1) := by decide +kernel
theorem dX7_number_33 : decode cX7_number 33 = .ok (.iload_n 2, 1) := by decide +kernel
theorem dX7_number_34 : decode cX7_number 34 = .ok (.iload_n 3, 1) := by decide +kernel
theorem dX7_number_35 : decode cX7_number 35 = .ok (.invokevirtual 147, 3) := by decide +kernel
theorem dX7_number_38 : decode cX7_number 38 = .ok (.goto 4, 3) := by decide +kernel
theorem dX7_number_41 : decode cX7_number 41 = .ok (.iconst 0, 1) := by decide +kernel
theorem dX7_number_42 : decode cX7_number 42 = .ok (.ireturn, 1) := by decide +kernel
theorem dX7_undone_0 : decode cX7_undone 0 = .ok (.aload_n 0, 1) := by decide +kernel
theorem dX7_undone_1 : decode cX7_undone 1 = .ok (.aload_n 0, 1) := by decide +kernel
theorem dX7_undone_2 : decode cX7_undone 2 = .ok (.iload_n 1, 1) := by decide +kernel
theorem dX7_undone_3 : decode cX7_undone 3 = .ok (.iload_n 2, 1) := by decide +kernel
theorem dX7_undone_4 : decode cX7_undone 4 = .ok (.invokevirtual 66, 3) := by decide +kernel
theorem dX7_undone_7 : decode cX7_undone 7 = .ok (.iconst 1, 1) := by decide +kernel
theorem dX7_undone_8 : decode cX7_undone 8 = .ok (.invokevirtual 51, 3) := by decide +kernel
theorem dX7_undone_11 : decode cX7_undone 11 = .ok (.ifCond .ne 5, 3) := by decide +kernel
theorem dX7_undone_14 : decode cX7_undone 14 = .ok (.iconst 0, 1) := by decide +kernel
theorem dX7_undone_15 : decode cX7_undone 15 = .ok (.ireturn, 1) := by decide +kernel
theorem dX7_undone_16 : decode cX7_undone 16 = .ok (.iconst 0, 1) := by decide +kernel
theorem dX7_undone_17 : decode cX7_undone 17 = .ok (.istore_n 3, 1) := by decide +kernel
theorem dX7_undone_18 : decode cX7_undone 18 = .ok (.iconst 0, 1) := by decide +kernel
theorem dX7_undone_19 : decode cX7_undone 19 = .ok (.istore 4, 2) := by decide +kernel
theorem dX7_undone_21 : decode cX7_undone 21 = .ok (.iload 4, 2) := by decide +kernel
theorem dX7_undone_23 : decode cX7_undone 23 = .ok (.aload_n 0, 1) := by decide +kernel
theorem dX7_undone_24 : decode cX7_undone 24 = .ok (.getfield 9, 3) := by decide +kernel
theorem dX7_undone_27 : decode cX7_undone 27 = .ok (.iload_n 1, 1) := by decide +kernel
theorem dX7_undone_28 : decode cX7_undone 28 = .ok (.iaload, 1) := by decide +kernel
theorem dX7_undone_29 : decode cX7_undone 29 = .ok (.if_icmp .ge 43, 3) := by decide +kernel
theorem dX7_undone_32 : decode cX7_undone 32 = .ok (.iload_n 3, 1) := by decide +kernel
theorem dX7_undone_33 : decode cX7_undone 33 = .ok (.aload_n 0, 1) := by decide +kernel
theorem dX7_undone_34 : decode cX7_undone 34 = .ok (.iload_n 1, 1) := by decide +kernel
theorem dX7_undone_35 : decode cX7_undone 35 = .ok (.iload 4, 2) := by decide +kernel
theorem dX7_undone_37 : decode cX7_undone 37 = .ok (.iload_n 2, 1) := by decide +kernel
theorem dX7_undone_38 : decode cX7_undone 38 = .ok (.invokevirtual 75, 3) := by decide +kernel
theorem dX7_undone_41 : decode cX7_undone 41 = .ok (.ifCond .eq 22, 3) := by decide +kernel
theorem dX7_undone_44 : decode cX7_undone 44 = .ok (.aload_n 0, 1) := by decide +kernel
theorem dX7_undone_45 : decode cX7_undone 45 = .ok (.iload_n 1, 1) := by decide +kernel
theorem dX7_undone_46 : decode cX7_undone 46 = .ok (.iload 4, 2) := by decide +kernel
theorem dX7_undone_48 : decode cX7_undone 48 = .ok (.invokevirtual 150, 3) := by decide +kernel
theorem dX7_undone_51 : decode cX7_undone 51 = .ok (.aload_n 0, 1) := by decide +kernel
theorem dX7_undone_52 : decode cX7_undone 52 = .ok (.iload_n 1, 1) := by decide +kernel
theorem dX7_undone_53 : decode cX7_undone 53 = .ok (.iload 4, 2) := by decide +kernel
theorem dX7_undone_55 : decode cX7_undone 55 = .ok (.iload_n 2, 1) := by decide +kernel
theorem dX7_undone_56 : decode cX7_undone 56 = .ok (.invokevirtual 147, 3) := by decide +kernel
theorem dX7_undone_59 : decode cX7_undone 59 = .ok (.imul, 1) := by decide +kernel
theorem dX7_undone_60 : decode cX7_undone 60 = .ok (.goto 4, 3) := by decide +kernel
theorem dX7_undone_63 : decode cX7_undone 63 = .ok (.iconst 0, 1) := by decide +kernel
theorem dX7_undone_64 : decode cX7_undone 64 = .ok (.iadd, 1) := by decide +kernel
theorem dX7_undone_65 : decode cX7_undone 65 = .ok (.istore_n 3, 1) := by decide +kernel
theorem dX7_undone_66 : decode cX7_undone 66 = .ok (.iinc 4 1, 3) := by decide +kernel
theorem dX7_undone_69 : decode cX7_undone 69 = .ok (.goto (-48), 3) := by decide +kernel
theorem dX7_undone_72 : decode cX7_undone 72 = .ok (.iload_n 3, 1) := by decide +kernel
theorem dX7_undone_73 : decode cX7_undone 73 = .ok (.ireturn, 1) := by decide +kernel
theorem dX7_isSound_0 : decode cX7_isSound 0 = .ok (.aload_n 0, 1) := by decide +kernel
theorem dX7_isSound_1 : decode cX7_isSound 1 = .ok (.iload_n 1, 1) := by decide +kernel
theorem dX7_isSound_2 : decode cX7_isSound 2 = .ok (.invokestatic 43, 3) := by decide +kernel
theorem dX7_isSound_5 : decode cX7_isSound 5 = .ok (.iconst 1, 1) := by decide +kernel
theorem dX7_isSound_6 : decode cX7_isSound 6 = .ok (.invokevirtual 51, 3) := by decide +kernel
theorem dX7_isSound_9 : decode cX7_isSound 9 = .ok (.ireturn, 1) := by decide +kernel
theorem dX7_areSound_0 : decode cX7_areSound 0 = .ok (.aload_n 0, 1) := by decide +kernel
theorem dX7_areSound_1 : decode cX7_areSound 1 = .ok (.iload_n 1, 1) := by decide +kernel
theorem dX7_areSound_2 : decode cX7_areSound 2 = .ok (.invokestatic 43, 3) := by decide +kernel
theorem dX7_areSound_5 : decode cX7_areSound 5 = .ok (.ifCond .eq 14, 3) := by decide +kernel
theorem dX7_areSound_8 : decode cX7_areSound 8 = .ok (.iload_n 2, 1) := by decide +kernel
theorem dX7_areSound_9 : decode cX7_areSound 9 = .ok (.invokestatic 43, 3) := by decide +kernel
theorem dX7_areSound_12 : decode cX7_areSound 12 = .ok (.ifCond .eq 7, 3) := by decide +kernel
theorem dX7_areSound_15 : decode cX7_areSound 15 = .ok (.iconst 1, 1) := by decide +kernel
theorem dX7_areSound_16 : decode cX7_areSound 16 = .ok (.goto 4, 3) := by decide +kernel
theorem dX7_areSound_19 : decode cX7_areSound 19 = .ok (.iconst 0, 1) := by decide +kernel
theorem dX7_areSound_20 : decode cX7_areSound 20 = .ok (.iconst 1, 1) := by decide +kernel
theorem dX7_areSound_21 : decode cX7_areSound 21 = .ok (.invokevirtual 51, 3) := by decide +kernel
theorem dX7_areSound_24 : decode cX7_areSound 24 = .ok (.ireturn, 1) := by decide +kernel
theorem dX7_checksum_0 : decode cX7_checksum 0 = .ok (.aload_n 0, 1) := by decide +kernel
theorem dX7_checksum_1 : decode cX7_checksum 1 = .ok (.iconst 0, 1) := by decide +kernel
theorem dX7_checksum_2 : decode cX7_checksum 2 = .ok (.putfield 35, 3) := by decide +kernel
theorem dX7_checksum_5 : decode cX7_checksum 5 = .ok (.ldc2_w 153, 3) := by decide +kernel
theorem dX7_checksum_8 : decode cX7_checksum 8 = .ok (.lstore_n 1, 1) := by decide +kernel
theorem dX7_checksum_9 : decode cX7_checksum 9 = .ok (.iconst 0, 1) := by decide +kernel
theorem dX7_checksum_10 : decode cX7_checksum 10 = .ok (.istore_n 3, 1) := by decide +kernel
theorem dX7_checksum_11 : decode cX7_checksum 11 = .ok (.iload_n 3, 1) := by decide +kernel
theorem dX7_checksum_12 : decode cX7_checksum 12 = .ok (.iconst 4, 1) := by decide +kernel
theorem dX7_checksum_13 : decode cX7_checksum 13 = .ok (.if_icmp .ge 128, 3) := by decide +kernel
theorem dX7_checksum_16 : decode cX7_checksum 16 = .ok (.ldc2_w 155, 3) := by decide +kernel
theorem dX7_checksum_19 : decode cX7_checksum 19 = .ok (.lload_n 1, 1) := by decide +kernel
theorem dX7_checksum_20 : decode cX7_checksum 20 = .ok (.lmul, 1) := by decide +kernel
theorem dX7_checksum_21 : decode cX7_checksum 21 = .ok (.aload_n 0, 1) := by decide +kernel
theorem dX7_checksum_22 : decode cX7_checksum 22 = .ok (.getfield 9, 3) := by decide +kernel
theorem dX7_checksum_25 : decode cX7_checksum 25 = .ok (.iload_n 3, 1) := by decide +kernel
theorem dX7_checksum_26 : decode cX7_checksum 26 = .ok (.iaload, 1) := by decide +kernel
theorem dX7_checksum_27 : decode cX7_checksum 27 = .ok (.i2l, 1) := by decide +kernel
theorem dX7_checksum_28 : decode cX7_checksum 28 = .ok (.ladd, 1) := by decide +kernel
theorem dX7_checksum_29 : decode cX7_checksum 29 = .ok (.lstore_n 1, 1) := by decide +kernel
theorem dX7_checksum_30 : decode cX7_checksum 30 = .ok (.iconst 0, 1) := by decide +kernel
theorem dX7_checksum_31 : decode cX7_checksum 31 = .ok (.istore 4, 2) := by decide +kernel
theorem dX7_checksum_33 : decode cX7_checksum 33 = .ok (.iload 4, 2) := by decide +kernel
theorem dX7_checksum_35 : decode cX7_checksum 35 = .ok (.aload_n 0, 1) := by decide +kernel
theorem dX7_checksum_36 : decode cX7_checksum 36 = .ok (.getfield 9, 3) := by decide +kernel
theorem dX7_checksum_39 : decode cX7_checksum 39 = .ok (.iload_n 3, 1) := by decide +kernel
theorem dX7_checksum_40 : decode cX7_checksum 40 = .ok (.iaload, 1) := by decide +kernel
theorem dX7_checksum_41 : decode cX7_checksum 41 = .ok (.if_icmp .ge 39, 3) := by decide +kernel
theorem dX7_checksum_44 : decode cX7_checksum 44 = .ok (.ldc2_w 155, 3) := by decide +kernel
theorem dX7_checksum_47 : decode cX7_checksum 47 = .ok (.ldc2_w 155, 3) := by decide +kernel
theorem dX7_checksum_50 : decode cX7_checksum 50 = .ok (.lload_n 1, 1) := by decide +kernel
theorem dX7_checksum_51 : decode cX7_checksum 51 = .ok (.lmul, 1) := by decide +kernel
theorem dX7_checksum_52 : decode cX7_checksum 52 = .ok (.aload_n 0, 1) := by decide +kernel
theorem dX7_checksum_53 : decode cX7_checksum 53 = .ok (.iload_n 3, 1) := by decide +kernel
theorem dX7_checksum_54 : decode cX7_checksum 54 = .ok (.iload 4, 2) := by decide +kernel
theorem dX7_checksum_56 : decode cX7_checksum 56 = .ok (.invokevirtual 95, 3) := by decide +kernel
theorem dX7_checksum_59 : decode cX7_checksum 59 = .ok (.i2l, 1) := by decide +kernel
theorem dX7_checksum_60 : decode cX7_checksum 60 = .ok (.ladd, 1) := by decide +kernel
theorem dX7_checksum_61 : decode cX7_checksum 61 = .ok (.lmul, 1) := by decide +kernel
theorem dX7_checksum_62 : decode cX7_checksum 62 = .ok (.aload_n 0, 1) := by decide +kernel
theorem dX7_checksum_63 : decode cX7_checksum 63 = .ok (.getfield 15, 3) := by decide +kernel
theorem dX7_checksum_66 : decode cX7_checksum 66 = .ok (.iload_n 3, 1) := by decide +kernel
theorem dX7_checksum_67 : decode cX7_checksum 67 = .ok (.aaload, 1) := by decide +kernel
theorem dX7_checksum_68 : decode cX7_checksum 68 = .ok (.iload 4, 2) := by decide +kernel
theorem dX7_checksum_70 : decode cX7_checksum 70 = .ok (.iaload, 1) := by decide +kernel
theorem dX7_checksum_71 : decode cX7_checksum 71 = .ok (.i2l, 1) := by decide +kernel
theorem dX7_checksum_72 : decode cX7_checksum 72 = .ok (.ladd, 1) := by decide +kernel
theorem dX7_checksum_73 : decode cX7_checksum 73 = .ok (.lstore_n 1, 1) := by decide +kernel
theorem dX7_checksum_74 : decode cX7_checksum 74 = .ok (.iinc 4 1, 3) := by decide +kernel
theorem dX7_checksum_77 : decode cX7_checksum 77 = .ok (.goto (-44), 3) := by decide +kernel
theorem dX7_checksum_80 : decode cX7_checksum 80 = .ok (.ldc2_w 155, 3) := by decide +kernel
theorem dX7_checksum_83 : decode cX7_checksum 83 = .ok (.lload_n 1, 1) := by decide +kernel
theorem dX7_checksum_84 : decode cX7_checksum 84 = .ok (.lmul, 1) := by decide +kernel
theorem dX7_checksum_85 : decode cX7_checksum 85 = .ok (.aload_n 0, 1) := by decide +kernel
theorem dX7_checksum_86 : decode cX7_checksum 86 = .ok (.iload_n 3, 1) := by decide +kernel
theorem dX7_checksum_87 : decode cX7_checksum 87 = .ok (.iconst (-1), 1) := by decide +kernel
theorem dX7_checksum_88 : decode cX7_checksum 88 = .ok (.invokevirtual 127, 3) := by decide +kernel
theorem dX7_checksum_91 : decode cX7_checksum 91 = .ok (.i2l, 1) := by decide +kernel
theorem dX7_checksum_92 : decode cX7_checksum 92 = .ok (.ladd, 1) := by decide +kernel
theorem dX7_checksum_93 : decode cX7_checksum 93 = .ok (.lstore_n 1, 1) := by decide +kernel
theorem dX7_checksum_94 : decode cX7_checksum 94 = .ok (.ldc2_w 155, 3) := by decide +kernel
theorem dX7_checksum_97 : decode cX7_checksum 97 = .ok (.lload_n 1, 1) := by decide +kernel
theorem dX7_checksum_98 : decode cX7_checksum 98 = .ok (.lmul, 1) := by decide +kernel
theorem dX7_checksum_99 : decode cX7_checksum 99 = .ok (.aload_n 0, 1) := by decide +kernel
theorem dX7_checksum_100 : decode cX7_checksum 100 = .ok (.iload_n 3, 1) := by decide +kernel
theorem dX7_checksum_101 : decode cX7_checksum 101 = .ok (.invokevirtual 81, 3) := by decide +kernel
theorem dX7_checksum_104 : decode cX7_checksum 104 = .ok (.i2l, 1) := by decide +kernel
theorem dX7_checksum_105 : decode cX7_checksum 105 = .ok (.ladd, 1) := by decide +kernel
theorem dX7_checksum_106 : decode cX7_checksum 106 = .ok (.lstore_n 1, 1) := by decide +kernel
theorem dX7_checksum_107 : decode cX7_checksum 107 = .ok (.ldc2_w 155, 3) := by decide +kernel
theorem dX7_checksum_110 : decode cX7_checksum 110 = .ok (.lload_n 1, 1) := by decide +kernel
theorem dX7_checksum_111 : decode cX7_checksum 111 = .ok (.lmul, 1) := by decide +kernel
theorem dX7_checksum_112 : decode cX7_checksum 112 = .ok (.aload_n 0, 1) := by decide +kernel
theorem dX7_checksum_113 : decode cX7_checksum 113 = .ok (.iload_n 3, 1) := by decide +kernel
theorem dX7_checksum_114 : decode cX7_checksum 114 = .ok (.iconst 0, 1) := by decide +kernel
theorem dX7_checksum_115 : decode cX7_checksum 115 = .ok (.invokevirtual 111, 3) := by decide +kernel
theorem dX7_checksum_118 : decode cX7_checksum 118 = .ok (.i2l, 1) := by decide +kernel
theorem dX7_checksum_119 : decode cX7_checksum 119 = .ok (.ladd, 1) := by decide +kernel
theorem dX7_checksum_120 : decode cX7_checksum 120 = .ok (.lstore_n 1, 1) := by decide +kernel
theorem dX7_checksum_121 : decode cX7_checksum 121 = .ok (.ldc2_w 155, 3) := by decide +kernel
theorem dX7_checksum_124 : decode cX7_checksum 124 = .ok (.lload_n 1, 1) := by decide +kernel
theorem dX7_checksum_125 : decode cX7_checksum 125 = .ok (.lmul, 1) := by decide +kernel
theorem dX7_checksum_126 : decode cX7_checksum 126 = .ok (.aload_n 0, 1) := by decide +kernel
theorem dX7_checksum_127 : decode cX7_checksum 127 = .ok (.iload_n 3, 1) := by decide +kernel
theorem dX7_checksum_128 : decode cX7_checksum 128 = .ok (.iconst 1, 1) := by decide +kernel
theorem dX7_checksum_129 : decode cX7_checksum 129 = .ok (.invokevirtual 111, 3) := by decide +kernel
theorem dX7_checksum_132 : decode cX7_checksum 132 = .ok (.i2l, 1) := by decide +kernel
theorem dX7_checksum_133 : decode cX7_checksum 133 = .ok (.ladd, 1) := by decide +kernel
theorem dX7_checksum_134 : decode cX7_checksum 134 = .ok (.lstore_n 1, 1) := by decide +kernel
theorem dX7_checksum_135 : decode cX7_checksum 135 = .ok (.iinc 3 1, 3) := by decide +kernel
theorem dX7_checksum_138 : decode cX7_checksum 138 = .ok (.goto (-127), 3) := by decide +kernel
theorem dX7_checksum_141 : decode cX7_checksum 141 = .ok (.lload_n 1, 1) := by decide +kernel
theorem dX7_checksum_142 : decode cX7_checksum 142 = .ok (.lreturn, 1) := by decide +kernel
