theorem dX6_has_0 : decode cX6_has 0 = .ok (.iload_n 0, 1) := by decide +kernel
theorem dX6_has_1 : decode cX6_has 1 = .ok (.iload_n 1, 1) := by decide +kernel
theorem dX6_has_2 : decode cX6_has 2 = .ok (.ishr, 1) := by decide +kernel
theorem dX6_has_3 : decode cX6_has 3 = .ok (.iconst 1, 1) := by decide +kernel
theorem dX6_has_4 : decode cX6_has 4 = .ok (.iand, 1) := by decide +kernel
theorem dX6_has_5 : decode cX6_has 5 = .ok (.ifCond .eq 7, 3) := by decide +kernel
theorem dX6_has_8 : decode cX6_has 8 = .ok (.iconst 1, 1) := by decide +kernel
theorem dX6_has_9 : decode cX6_has 9 = .ok (.goto 4, 3) := by decide +kernel
theorem dX6_has_12 : decode cX6_has 12 = .ok (.iconst 0, 1) := by decide +kernel
theorem dX6_has_13 : decode cX6_has 13 = .ok (.ireturn, 1) := by decide +kernel
theorem dX6_isWithin_0 : decode cX6_isWithin 0 = .ok (.iload_n 0, 1) := by decide +kernel
theorem dX6_isWithin_1 : decode cX6_isWithin 1 = .ok (.iload_n 1, 1) := by decide +kernel
theorem dX6_isWithin_2 : decode cX6_isWithin 2 = .ok (.iconst (-1), 1) := by decide +kernel
theorem dX6_isWithin_3 : decode cX6_isWithin 3 = .ok (.ixor, 1) := by decide +kernel
theorem dX6_isWithin_4 : decode cX6_isWithin 4 = .ok (.iand, 1) := by decide +kernel
theorem dX6_isWithin_5 : decode cX6_isWithin 5 = .ok (.ifCond .ne 7, 3) := by decide +kernel
theorem dX6_isWithin_8 : decode cX6_isWithin 8 = .ok (.iconst 1, 1) := by decide +kernel
theorem dX6_isWithin_9 : decode cX6_isWithin 9 = .ok (.goto 4, 3) := by decide +kernel
theorem dX6_isWithin_12 : decode cX6_isWithin 12 = .ok (.iconst 0, 1) := by decide +kernel
theorem dX6_isWithin_13 : decode cX6_isWithin 13 = .ok (.ireturn, 1) := by decide +kernel
theorem dX3_isClosedBelow_0 : decode cX3_isClosedBelow 0 = .ok (.iconst 0, 1) := by decide +kernel
theorem dX3_isClosedBelow_1 : decode cX3_isClosedBelow 1 = .ok (.istore_n 2, 1) := by decide +kernel
theorem dX3_isClosedBelow_2 : decode cX3_isClosedBelow 2 = .ok (.iload_n 2, 1) := by decide +kernel
theorem dX3_isClosedBelow_3 : decode cX3_isClosedBelow 3 = .ok (.aload_n 0, 1) := by decide +kernel
theorem dX3_isClosedBelow_4 : decode cX3_isClosedBelow 4 = .ok (.getfield 22, 3) := by decide +kernel
theorem dX3_isClosedBelow_7 : decode cX3_isClosedBelow 7 = .ok (.if_icmp .ge 32, 3) := by decide +kernel
theorem dX3_isClosedBelow_10 : decode cX3_isClosedBelow 10 = .ok (.iload_n 1, 1) := by decide +kernel
theorem dX3_isClosedBelow_11 : decode cX3_isClosedBelow 11 = .ok (.iload_n 2, 1) := by decide +kernel
theorem dX3_isClosedBelow_12 : decode cX3_isClosedBelow 12 = .ok (.invokestatic 26, 3) := by decide +kernel
theorem dX3_isClosedBelow_15 : decode cX3_isClosedBelow 15 = .ok (.ifCond .eq 18, 3) := by decide +kernel
theorem dX3_isClosedBelow_18 : decode cX3_isClosedBelow 18 = .ok (.aload_n 0, 1) := by decide +kernel
theorem dX3_isClosedBelow_19 : decode cX3_isClosedBelow 19 = .ok (.getfield 9, 3) := by decide +kernel
theorem dX3_isClosedBelow_22 : decode cX3_isClosedBelow 22 = .ok (.iload_n 2, 1) := by decide +kernel
theorem dX3_isClosedBelow_23 : decode cX3_isClosedBelow 23 = .ok (.iaload, 1) := by decide +kernel
theorem dX3_isClosedBelow_24 : decode cX3_isClosedBelow 24 = .ok (.iload_n 1, 1) := by decide +kernel
theorem dX3_isClosedBelow_25 : decode cX3_isClosedBelow 25 = .ok (.invokestatic 71, 3) := by decide +kernel
theorem dX3_isClosedBelow_28 : decode cX3_isClosedBelow 28 = .ok (.ifCond .ne 5, 3) := by decide +kernel
theorem dX3_isClosedBelow_31 : decode cX3_isClosedBelow 31 = .ok (.iconst 0, 1) := by decide +kernel
theorem dX3_isClosedBelow_32 : decode cX3_isClosedBelow 32 = .ok (.ireturn, 1) := by decide +kernel
theorem dX3_isClosedBelow_33 : decode cX3_isClosedBelow 33 = .ok (.iinc 2 1, 3) := by decide +kernel
theorem dX3_isClosedBelow_36 : decode cX3_isClosedBelow 36 = .ok (.goto (-34), 3) := by decide +kernel
theorem dX3_isClosedBelow_39 : decode cX3_isClosedBelow 39 = .ok (.iconst 1, 1) := by decide +kernel
theorem dX3_isClosedBelow_40 : decode cX3_isClosedBelow 40 = .ok (.ireturn, 1) := by decide +kernel
theorem dX3_setLimit_0 : decode cX3_setLimit 0 = .ok (.iconst 1, 1) := by decide +kernel
theorem dX3_setLimit_1 : decode cX3_setLimit 1 = .ok (.aload_n 0, 1) := by decide +kernel
theorem dX3_setLimit_2 : decode cX3_setLimit 2 = .ok (.getfield 22, 3) := by decide +kernel
theorem dX3_setLimit_5 : decode cX3_setLimit 5 = .ok (.ishl, 1) := by decide +kernel
theorem dX3_setLimit_6 : decode cX3_setLimit 6 = .ok (.ireturn, 1) := by decide +kernel
theorem dJ6_bitCount_0f7a4_0 : decode cJ6_bitCount_0f7a4 0 = .ok (.iload_n 0, 1) := by decide +kernel
theorem dJ6_bitCount_0f7a4_1 : decode cJ6_bitCount_0f7a4 1 = .ok (.iload_n 0, 1) := by decide +kernel
theorem dJ6_bitCount_0f7a4_2 : decode cJ6_bitCount_0f7a4 2 = .ok (.iconst 1, 1) := by decide +kernel
theorem dJ6_bitCount_0f7a4_3 : decode cJ6_bitCount_0f7a4 3 = .ok (.iushr, 1) := by decide +kernel
theorem dJ6_bitCount_0f7a4_4 : decode cJ6_bitCount_0f7a4 4 = .ok (.ldc_w 265, 3) := by decide +kernel
theorem dJ6_bitCount_0f7a4_7 : decode cJ6_bitCount_0f7a4 7 = .ok (.iand, 1) := by decide +kernel
theorem dJ6_bitCount_0f7a4_8 : decode cJ6_bitCount_0f7a4 8 = .ok (.isub, 1) := by decide +kernel
theorem dJ6_bitCount_0f7a4_9 : decode cJ6_bitCount_0f7a4 9 = .ok (.istore_n 0, 1) := by decide +kernel
theorem dJ6_bitCount_0f7a4_10 : decode cJ6_bitCount_0f7a4 10 = .ok (.iload_n 0, 1) := by decide +kernel
theorem dJ6_bitCount_0f7a4_11 : decode cJ6_bitCount_0f7a4 11 = .ok (.ldc_w 266, 3) := by decide +kernel
theorem dJ6_bitCount_0f7a4_14 : decode cJ6_bitCount_0f7a4 14 = .ok (.iand, 1) := by decide +kernel
theorem dJ6_bitCount_0f7a4_15 : decode cJ6_bitCount_0f7a4 15 = .ok (.iload_n 0, 1) := by decide +kernel
theorem dJ6_bitCount_0f7a4_16 : decode cJ6_bitCount_0f7a4 16 = .ok (.iconst 2, 1) := by decide +kernel
theorem dJ6_bitCount_0f7a4_17 : decode cJ6_bitCount_0f7a4 17 = .ok (.iushr, 1) := by decide +kernel
theorem dJ6_bitCount_0f7a4_18 : decode cJ6_bitCount_0f7a4 18 = .ok (.ldc_w 266, 3) := by decide +kernel
theorem dJ6_bitCount_0f7a4_21 : decode cJ6_bitCount_0f7a4 21 = .ok (.iand, 1) := by decide +kernel
theorem dJ6_bitCount_0f7a4_22 : decode cJ6_bitCount_0f7a4 22 = .ok (.iadd, 1) := by decide +kernel
theorem dJ6_bitCount_0f7a4_23 : decode cJ6_bitCount_0f7a4 23 = .ok (.istore_n 0, 1) := by decide +kernel
theorem dJ6_bitCount_0f7a4_24 : decode cJ6_bitCount_0f7a4 24 = .ok (.iload_n 0, 1) := by decide +kernel
theorem dJ6_bitCount_0f7a4_25 : decode cJ6_bitCount_0f7a4 25 = .ok (.iload_n 0, 1) := by decide +kernel
theorem dJ6_bitCount_0f7a4_26 : decode cJ6_bitCount_0f7a4 26 = .ok (.iconst 4, 1) := by decide +kernel
theorem dJ6_bitCount_0f7a4_27 : decode cJ6_bitCount_0f7a4 27 = .ok (.iushr, 1) := by decide +kernel
theorem dJ6_bitCount_0f7a4_28 : decode cJ6_bitCount_0f7a4 28 = .ok (.iadd, 1) := by decide +kernel
theorem dJ6_bitCount_0f7a4_29 : decode cJ6_bitCount_0f7a4 29 = .ok (.ldc_w 267, 3) := by decide +kernel
theorem dJ6_bitCount_0f7a4_32 : decode cJ6_bitCount_0f7a4 32 = .ok (.iand, 1) := by decide +kernel
theorem dJ6_bitCount_0f7a4_33 : decode cJ6_bitCount_0f7a4 33 = .ok (.istore_n 0, 1) := by decide +kernel
theorem dJ6_bitCount_0f7a4_34 : decode cJ6_bitCount_0f7a4 34 = .ok (.iload_n 0, 1) := by decide +kernel
theorem dJ6_bitCount_0f7a4_35 : decode cJ6_bitCount_0f7a4 35 = .ok (.iload_n 0, 1) := by decide +kernel
theorem dJ6_bitCount_0f7a4_36 : decode cJ6_bitCount_0f7a4 36 = .ok (.bipush 8, 2) := by decide +kernel
theorem dJ6_bitCount_0f7a4_38 : decode cJ6_bitCount_0f7a4 38 = .ok (.iushr, 1) := by decide +kernel
theorem dJ6_bitCount_0f7a4_39 : decode cJ6_bitCount_0f7a4 39 = .ok (.iadd, 1) := by decide +kernel
theorem dJ6_bitCount_0f7a4_40 : decode cJ6_bitCount_0f7a4 40 = .ok (.istore_n 0, 1) := by decide +kernel
theorem dJ6_bitCount_0f7a4_41 : decode cJ6_bitCount_0f7a4 41 = .ok (.iload_n 0, 1) := by decide +kernel
theorem dJ6_bitCount_0f7a4_42 : decode cJ6_bitCount_0f7a4 42 = .ok (.iload_n 0, 1) := by decide +kernel
theorem dJ6_bitCount_0f7a4_43 : decode cJ6_bitCount_0f7a4 43 = .ok (.bipush 16, 2) := by decide +kernel
theorem dJ6_bitCount_0f7a4_45 : decode cJ6_bitCount_0f7a4 45 = .ok (.iushr, 1) := by decide +kernel
theorem dJ6_bitCount_0f7a4_46 : decode cJ6_bitCount_0f7a4 46 = .ok (.iadd, 1) := by decide +kernel
theorem dJ6_bitCount_0f7a4_47 : decode cJ6_bitCount_0f7a4 47 = .ok (.istore_n 0, 1) := by decide +kernel
theorem dJ6_bitCount_0f7a4_48 : decode cJ6_bitCount_0f7a4 48 = .ok (.iload_n 0, 1) := by decide +kernel
theorem dJ6_bitCount_0f7a4_49 : decode cJ6_bitCount_0f7a4 49 = .ok (.bipush 63, 2) := by decide +kernel
theorem dJ6_bitCount_0f7a4_51 : decode cJ6_bitCount_0f7a4 51 = .ok (.iand, 1) := by decide +kernel
theorem dJ6_bitCount_0f7a4_52 : decode cJ6_bitCount_0f7a4 52 = .ok (.ireturn, 1) := by decide +kernel
theorem dX1_findAt_0 : decode cX1_findAt 0 = .ok (.iconst 0, 1) := by decide +kernel
theorem dX1_findAt_1 : decode cX1_findAt 1 = .ok (.istore_n 2, 1) := by decide +kernel
theorem dX1_findAt_2 : decode cX1_findAt 2 = .ok (.iconst 0, 1) := by decide +kernel
theorem dX1_findAt_3 : decode cX1_findAt 3 = .ok (.istore_n 3, 1) := by decide +kernel
theorem dX1_findAt_4 : decode cX1_findAt 4 = .ok (.iload_n 3, 1) := by decide +kernel
theorem dX1_findAt_5 : decode cX1_findAt 5 = .ok (.aload_n 0, 1) := by decide +kernel
theorem dX1_findAt_6 : decode cX1_findAt 6 = .ok (.getfield 31, 3) := by decide +kernel
theorem dX1_findAt_9 : decode cX1_findAt 9 = .ok (.if_icmp .gt 56, 3) := by decide +kernel
theorem dX1_findAt_12 : decode cX1_findAt 12 = .ok (.iconst 0, 1) := by decide +kernel
theorem dX1_findAt_13 : decode cX1_findAt 13 = .ok (.istore 4, 2) := by decide +kernel
theorem dX1_findAt_15 : decode cX1_findAt 15 = .ok (.iload 4, 2) := by decide +kernel
theorem dX1_findAt_17 : decode cX1_findAt 17 = .ok (.aload_n 0, 1) := by decide +kernel
theorem dX1_findAt_18 : decode cX1_findAt 18 = .ok (.invokevirtual 15, 3) := by decide +kernel
theorem dX1_findAt_21 : decode cX1_findAt 21 = .ok (.if_icmp .ge 38, 3) := by decide +kernel
theorem dX1_findAt_24 : decode cX1_findAt 24 = .ok (.iload 4, 2) := by decide +kernel
theorem dX1_findAt_26 : decode cX1_findAt 26 = .ok (.invokestatic 9, 3) := by decide +kernel
theorem dX1_findAt_29 : decode cX1_findAt 29 = .ok (.iload_n 3, 1) := by decide +kernel
theorem dX1_findAt_30 : decode cX1_findAt 30 = .ok (.if_icmp .ne 23, 3) := by decide +kernel
theorem dX1_findAt_33 : decode cX1_findAt 33 = .ok (.aload_n 0, 1) := by decide +kernel
theorem dX1_findAt_34 : decode cX1_findAt 34 = .ok (.iload 4, 2) := by decide +kernel
theorem dX1_findAt_36 : decode cX1_findAt 36 = .ok (.invokevirtual 21, 3) := by decide +kernel
theorem dX1_findAt_39 : decode cX1_findAt 39 = .ok (.ifCond .eq 14, 3) := by decide +kernel
theorem dX1_findAt_42 : decode cX1_findAt 42 = .ok (.iload_n 2, 1) := by decide +kernel
theorem dX1_findAt_43 : decode cX1_findAt 43 = .ok (.iload_n 1, 1) := by decide +kernel
theorem dX1_findAt_44 : decode cX1_findAt 44 = .ok (.if_icmp .ne 6, 3) := by decide +kernel
theorem dX1_findAt_47 : decode cX1_findAt 47 = .ok (.iload 4, 2) := by decide +kernel
theorem dX1_findAt_49 : decode cX1_findAt 49 = .ok (.ireturn, 1) := by decide +kernel
theorem dX1_findAt_50 : decode cX1_findAt 50 = .ok (.iinc 2 1, 3) := by decide +kernel
theorem dX1_findAt_53 : decode cX1_findAt 53 = .ok (.iinc 4 1, 3) := by decide +kernel
theorem dX1_findAt_56 : decode cX1_findAt 56 = .ok (.goto (-41), 3) := by decide +kernel
theorem dX1_findAt_59 : decode cX1_findAt 59 = .ok (.iinc 3 1, 3) := by decide +kernel
theorem dX1_findAt_62 : decode cX1_findAt 62 = .ok (.goto (-58), 3) := by decide +kernel
theorem dX1_findAt_65 : decode cX1_findAt 65 = .ok (.iconst (-1), 1) := by decide +kernel
theorem dX1_findAt_66 : decode cX1_findAt 66 = .ok (.ireturn, 1) := by decide +kernel
theorem dX3_squeezed_0 : decode cX3_squeezed 0 = .ok (.iconst 0, 1) := by decide +kernel
theorem dX3_squeezed_1 : decode cX3_squeezed 1 = .ok (.istore_n 2, 1) := by decide +kernel
theorem dX3_squeezed_2 : decode cX3_squeezed 2 = .ok (.iconst 0, 1) := by decide +kernel
theorem dX3_squeezed_3 : decode cX3_squeezed 3 = .ok (.istore_n 3, 1) := by decide +kernel
theorem dX3_squeezed_4 : decode cX3_squeezed 4 = .ok (.iconst 0, 1) := by decide +kernel
theorem dX3_squeezed_5 : decode cX3_squeezed 5 = .ok (.istore 4, 2) := by decide +kernel
theorem dX3_squeezed_7 : decode cX3_squeezed 7 = .ok (.iload 4, 2) := by decide +kernel
theorem dX3_squeezed_9 : decode cX3_squeezed 9 = .ok (.bipush 9, 2) := by decide +kernel
theorem dX3_squeezed_11 : decode cX3_squeezed 11 = .ok (.if_icmp .ge 36, 3) := by decide +kernel
theorem dX3_squeezed_14 : decode cX3_squeezed 14 = .ok (.iload_n 1, 1) := by decide +kernel
theorem dX3_squeezed_15 : decode cX3_squeezed 15 = .ok (.iload 4, 2) := by decide +kernel
theorem dX3_squeezed_17 : decode cX3_squeezed 17 = .ok (.invokestatic 26, 3) := by decide +kernel
theorem dX3_squeezed_20 : decode cX3_squeezed 20 = .ok (.ifCond .eq 21, 3) := by decide +kernel
theorem dX3_squeezed_23 : decode cX3_squeezed 23 = .ok (.iload_n 0, 1) := by decide +kernel
theorem dX3_squeezed_24 : decode cX3_squeezed 24 = .ok (.iload 4, 2) := by decide +kernel
theorem dX3_squeezed_26 : decode cX3_squeezed 26 = .ok (.invokestatic 26, 3) := by decide +kernel
theorem dX3_squeezed_29 : decode cX3_squeezed 29 = .ok (.ifCond .eq 9, 3) := by decide +kernel
theorem dX3_squeezed_32 : decode cX3_squeezed 32 = .ok (.iload_n 2, 1) := by decide +kernel
theorem dX3_squeezed_33 : decode cX3_squeezed 33 = .ok (.iconst 1, 1) := by decide +kernel
theorem dX3_squeezed_34 : decode cX3_squeezed 34 = .ok (.iload_n 3, 1) := by decide +kernel
theorem dX3_squeezed_35 : decode cX3_squeezed 35 = .ok (.ishl, 1) := by decide +kernel
theorem dX3_squeezed_36 : decode cX3_squeezed 36 = .ok (.ior, 1) := by decide +kernel
theorem dX3_squeezed_37 : decode cX3_squeezed 37 = .ok (.istore_n 2, 1) := by decide +kernel
theorem dX3_squeezed_38 : decode cX3_squeezed 38 = .ok (.iinc 3 1, 3) := by decide +kernel
theorem dX3_squeezed_41 : decode cX3_squeezed 41 = .ok (.iinc 4 1, 3) := by decide +kernel
theorem dX3_squeezed_44 : decode cX3_squeezed 44 = .ok (.goto (-37), 3) := by decide +kernel
theorem dX3_squeezed_47 : decode cX3_squeezed 47 = .ok (.iload_n 2, 1) := by decide +kernel
theorem dX3_squeezed_48 : decode cX3_squeezed 48 = .ok (.ireturn, 1) := by decide +kernel
theorem dX3_retain_0 : decode cX3_retain 0 = .ok (.iconst 0, 1) := by decide +kernel
theorem dX3_retain_1 : decode cX3_retain 1 = .ok (.istore_n 2, 1) := by decide +kernel
theorem dX3_retain_2 : decode cX3_retain 2 = .ok (.iconst 0, 1) := by decide +kernel
theorem dX3_retain_3 : decode cX3_retain 3 = .ok (.istore_n 3, 1) := by decide +kernel
theorem dX3_retain_4 : decode cX3_retain 4 = .ok (.iload_n 3, 1) := by decide +kernel
theorem dX3_retain_5 : decode cX3_retain 5 = .ok (.aload_n 0, 1) := by decide +kernel
theorem dX3_retain_6 : decode cX3_retain 6 = .ok (.getfield 22, 3) := by decide +kernel
theorem dX3_retain_9 : decode cX3_retain 9 = .ok (.if_icmp .ge 48, 3) := by decide +kernel
theorem dX3_retain_12 : decode cX3_retain 12 = .ok (.iload_n 1, 1) := by decide +kernel
theorem dX3_retain_13 : decode cX3_retain 13 = .ok (.iload_n 3, 1) := by decide +kernel
theorem dX3_retain_14 : decode cX3_retain 14 = .ok (.invokestatic 26, 3) := by decide +kernel
theorem dX3_retain_17 : decode cX3_retain 17 = .ok (.ifCond .eq 34, 3) := by decide +kernel
theorem dX3_retain_20 : decode cX3_retain 20 = .ok (.aload_n 0, 1) := by decide +kernel
theorem dX3_retain_21 : decode cX3_retain 21 = .ok (.getfield 9, 3) := by decide +kernel
theorem dX3_retain_24 : decode cX3_retain 24 = .ok (.iload_n 2, 1) := by decide +kernel
theorem dX3_retain_25 : decode cX3_retain 25 = .ok (.aload_n 0, 1) := by decide +kernel
theorem dX3_retain_26 : decode cX3_retain 26 = .ok (.getfield 9, 3) := by decide +kernel
theorem dX3_retain_29 : decode cX3_retain 29 = .ok (.iload_n 3, 1) := by decide +kernel
theorem dX3_retain_30 : decode cX3_retain 30 = .ok (.iaload, 1) := by decide +kernel
theorem dX3_retain_31 : decode cX3_retain 31 = .ok (.iload_n 1, 1) := by decide +kernel
theorem dX3_retain_32 : decode cX3_retain 32 = .ok (.invokestatic 30, 3) := by decide +kernel
theorem dX3_retain_35 : decode cX3_retain 35 = .ok (.iastore, 1) := by decide +kernel
theorem dX3_retain_36 : decode cX3_retain 36 = .ok (.aload_n 0, 1) := by decide +kernel
theorem dX3_retain_37 : decode cX3_retain 37 = .ok (.getfield 15, 3) := by decide +kernel
theorem dX3_retain_40 : decode cX3_retain 40 = .ok (.iload_n 2, 1) := by decide +kernel
theorem dX3_retain_41 : decode cX3_retain 41 = .ok (.aload_n 0, 1) := by decide +kernel
theorem dX3_retain_42 : decode cX3_retain 42 = .ok (.getfield 15, 3) := by decide +kernel
theorem dX3_retain_45 : decode cX3_retain 45 = .ok (.iload_n 3, 1) := by decide +kernel
theorem dX3_retain_46 : decode cX3_retain 46 = .ok (.iaload, 1) := by decide +kernel
theorem dX3_retain_47 : decode cX3_retain 47 = .ok (.iastore, 1) := by decide +kernel
theorem dX3_retain_48 : decode cX3_retain 48 = .ok (.iinc 2 1, 3) := by decide +kernel
theorem dX3_retain_51 : decode cX3_retain 51 = .ok (.iinc 3 1, 3) := by decide +kernel
theorem dX3_retain_54 : decode cX3_retain 54 = .ok (.goto (-50), 3) := by decide +kernel
theorem dX3_retain_57 : decode cX3_retain 57 = .ok (.aload_n 0, 1) := by decide +kernel
theorem dX3_retain_58 : decode cX3_retain 58 = .ok (.iload_n 2, 1) := by decide +kernel
theorem dX3_retain_59 : decode cX3_retain 59 = .ok (.putfield 22, 3) := by decide +kernel
theorem dX3_retain_62 : decode cX3_retain 62 = .ok (.return_, 1) := by decide +kernel
theorem dX7_levelOf_0 : decode cX7_levelOf 0 = .ok (.iconst 0, 1) := by decide +kernel
theorem dX7_levelOf_1 : decode cX7_levelOf 1 = .ok (.istore_n 3, 1) := by decide +kernel
theorem dX7_levelOf_2 : decode cX7_levelOf 2 = .ok (.iconst 0, 1) := by decide +kernel
theorem dX7_levelOf_3 : decode cX7_levelOf 3 = .ok (.istore 4, 2) := by decide +kernel
theorem dX7_levelOf_5 : decode cX7_levelOf 5 = .ok (.iload 4, 2) := by decide +kernel
theorem dX7_levelOf_7 : decode cX7_levelOf 7 = .ok (.aload_n 0, 1) := by decide +kernel
theorem dX7_levelOf_8 : decode cX7_levelOf 8 = .ok (.getfield 9, 3) := by decide +kernel
theorem dX7_levelOf_11 : decode cX7_levelOf 11 = .ok (.iload_n 1, 1) := by decide +kernel
theorem dX7_levelOf_12 : decode cX7_levelOf 12 = .ok (.iaload, 1) := by decide +kernel
theorem dX7_levelOf_13 : decode cX7_levelOf 13 = .ok (.if_icmp .ge 49, 3) := by decide +kernel
theorem dX7_levelOf_16 : decode cX7_levelOf 16 = .ok (.aload_n 0, 1) := by decide +kernel
theorem dX7_levelOf_17 : decode cX7_levelOf 17 = .ok (.getfield 20, 3) := by decide +kernel
theorem dX7_levelOf_20 : decode cX7_levelOf 20 = .ok (.iload_n 1, 1) := by decide +kernel
theorem dX7_levelOf_21 : decode cX7_levelOf 21 = .ok (.aaload, 1) := by decide +kernel
theorem dX7_levelOf_22 : decode cX7_levelOf 22 = .ok (.iload 4, 2) := by decide +kernel
theorem dX7_levelOf_24 : decode cX7_levelOf 24 = .ok (.aaload, 1) := by decide +kernel
theorem dX7_levelOf_25 : decode cX7_levelOf 25 = .ok (.iload_n 2, 1) := by decide +kernel
theorem dX7_levelOf_26 : decode cX7_levelOf 26 = .ok (.baload, 1) := by decide +kernel
theorem dX7_levelOf_27 : decode cX7_levelOf 27 = .ok (.ifCond .eq 13, 3) := by decide +kernel
theorem dX7_levelOf_30 : decode cX7_levelOf 30 = .ok (.aload_n 0, 1) := by decide +kernel
theorem dX7_levelOf_31 : decode cX7_levelOf 31 = .ok (.iload_n 1, 1) := by decide +kernel
theorem dX7_levelOf_32 : decode cX7_levelOf 32 = .ok (.iload 4, 2) := by decide +kernel
theorem dX7_levelOf_34 : decode cX7_levelOf 34 = .ok (.invokevirtual 105, 3) := by decide +kernel
theorem dX7_levelOf_37 : decode cX7_levelOf 37 = .ok (.goto 4, 3) := by decide +kernel
theorem dX7_levelOf_40 : decode cX7_levelOf 40 = .ok (.iconst 0, 1) := by decide +kernel
theorem dX7_levelOf_41 : decode cX7_levelOf 41 = .ok (.istore 5, 2) := by decide +kernel
theorem dX7_levelOf_43 : decode cX7_levelOf 43 = .ok (.iload 5, 2) := by decide +kernel
theorem dX7_levelOf_45 : decode cX7_levelOf 45 = .ok (.iload_n 3, 1) := by decide +kernel
theorem dX7_levelOf_46 : decode cX7_levelOf 46 = .ok (.if_icmp .le 8, 3) := by decide +kernel
theorem dX7_levelOf_49 : decode cX7_levelOf 49 = .ok (.iload 5, 2) := by decide +kernel
theorem dX7_levelOf_51 : decode cX7_levelOf 51 = .ok (.goto 4, 3) := by decide +kernel
theorem dX7_levelOf_54 : decode cX7_levelOf 54 = .ok (.iload_n 3, 1) := by decide +kernel
theorem dX7_levelOf_55 : decode cX7_levelOf 55 = .ok (.istore_n 3, 1) := by decide +kernel
theorem dX7_levelOf_56 : decode cX7_levelOf 56 = .ok (.iinc 4 1, 3) := by decide +kernel
theorem dX7_levelOf_59 : decode cX7_levelOf 59 = .ok (.goto (-54), 3) := by decide +kernel
theorem dX7_levelOf_62 : decode cX7_levelOf 62 = .ok (.iload_n 3, 1) := by decide +kernel
theorem dX7_levelOf_63 : decode cX7_levelOf 63 = .ok (.iconst 1, 1) := by decide +kernel
theorem dX7_levelOf_64 : decode cX7_levelOf 64 = .ok (.iadd, 1) := by decide +kernel
theorem dX7_levelOf_65 : decode cX7_levelOf 65 = .ok (.ireturn, 1) := by decide +kernel
theorem dX3_isBelow_0 : decode cX3_isBelow 0 = .ok (.aload_n 0, 1) := by decide +kernel
theorem dX3_isBelow_1 : decode cX3_isBelow 1 = .ok (.getfield 9, 3) := by decide +kernel
theorem dX3_isBelow_4 : decode cX3_isBelow 4 = .ok (.iload_n 2, 1) := by decide +kernel
theorem dX3_isBelow_5 : decode cX3_isBelow 5 = .ok (.iaload, 1) := by decide +kernel
theorem dX3_isBelow_6 : decode cX3_isBelow 6 = .ok (.iload_n 1, 1) := by decide +kernel
theorem dX3_isBelow_7 : decode cX3_isBelow 7 = .ok (.invokestatic 26, 3) := by decide +kernel
theorem dX3_isBelow_10 : decode cX3_isBelow 10 = .ok (.ireturn, 1) := by decide +kernel
theorem dX3_pairCount_0 : decode cX3_pairCount 0 = .ok (.iconst 0, 1) := by decide +kernel
theorem dX3_pairCount_1 : decode cX3_pairCount 1 = .ok (.istore_n 1, 1) := by decide +kernel
theorem dX3_pairCount_2 : decode cX3_pairCount 2 = .ok (.iconst 0, 1) := by decide +kernel
theorem dX3_pairCount_3 : decode cX3_pairCount 3 = .ok (.istore_n 2, 1) := by decide +kernel
theorem dX3_pairCount_4 : decode cX3_pairCount 4 = .ok (.iload_n 2, 1) := by decide +kernel
theorem dX3_pairCount_5 : decode cX3_pairCount 5 = .ok (.aload_n 0, 1) := by decide +kernel
theorem dX3_pairCount_6 : decode cX3_pairCount 6 = .ok (.getfield 22, 3) := by decide +kernel
theorem dX3_pairCount_9 : decode cX3_pairCount 9 = .ok (.if_icmp .ge 21, 3) := by decide +kernel
theorem dX3_pairCount_12 : decode cX3_pairCount 12 = .ok (.iload_n 1, 1) := by decide +kernel
theorem dX3_pairCount_13 : decode cX3_pairCount 13 = .ok (.aload_n 0, 1) := by decide +kernel
theorem dX3_pairCount_14 : decode cX3_pairCount 14 = .ok (.getfield 9, 3) := by decide +kernel
theorem dX3_pairCount_17 : decode cX3_pairCount 17 = .ok (.iload_n 2, 1) := by decide +kernel
theorem dX3_pairCount_18 : decode cX3_pairCount 18 = .ok (.iaload, 1) := by decide +kernel
theorem dX3_pairCount_19 : decode cX3_pairCount 19 = .ok (.invokestatic 60, 3) := by decide +kernel
theorem dX3_pairCount_22 : decode cX3_pairCount 22 = .ok (.iadd, 1) := by decide +kernel
theorem dX3_pairCount_23 : decode cX3_pairCount 23 = .ok (.istore_n 1, 1) := by decide +kernel
theorem dX3_pairCount_24 : decode cX3_pairCount 24 = .ok (.iinc 2 1, 3) := by decide +kernel
theorem dX3_pairCount_27 : decode cX3_pairCount 27 = .ok (.goto (-23), 3) := by decide +kernel
theorem dX3_pairCount_30 : decode cX3_pairCount 30 = .ok (.iload_n 1, 1) := by decide +kernel
theorem dX3_pairCount_31 : decode cX3_pairCount 31 = .ok (.ireturn, 1) := by decide +kernel
theorem dX3_link_0 : decode cX3_link 0 = .ok (.iload_n 1, 1) := by decide +kernel
theorem dX3_link_1 : decode cX3_link 1 = .ok (.iload_n 2, 1) := by decide +kernel
theorem dX3_link_2 : decode cX3_link 2 = .ok (.if_icmp .eq 12, 3) := by decide +kernel
theorem dX3_link_5 : decode cX3_link 5 = .ok (.aload_n 0, 1) := by decide +kernel
theorem dX3_link_6 : decode cX3_link 6 = .ok (.iload_n 2, 1) := by decide +kernel
theorem dX3_link_7 : decode cX3_link 7 = .ok (.iload_n 1, 1) := by decide +kernel
theorem dX3_link_8 : decode cX3_link 8 = .ok (.invokevirtual 34, 3) := by decide +kernel
theorem dX3_link_11 : decode cX3_link 11 = .ok (.ifCond .eq 6, 3) := by decide +kernel
theorem dX3_link_14 : decode cX3_link 14 = .ok (.bipush (-9), 2) := by decide +kernel
theorem dX3_link_16 : decode cX3_link 16 = .ok (.ireturn, 1) := by decide +kernel
theorem dX3_link_17 : decode cX3_link 17 = .ok (.aload_n 0, 1) := by decide +kernel
theorem dX3_link_18 : decode cX3_link 18 = .ok (.invokevirtual 37, 3) := by decide +kernel
theorem dX3_link_21 : decode cX3_link 21 = .ok (.istore_n 3, 1) := by decide +kernel
theorem dX3_link_22 : decode cX3_link 22 = .ok (.aload_n 0, 1) := by decide +kernel
theorem dX3_link_23 : decode cX3_link 23 = .ok (.getfield 9, 3) := by decide +kernel
theorem dX3_link_26 : decode cX3_link 26 = .ok (.iload_n 1, 1) := by decide +kernel
theorem dX3_link_27 : decode cX3_link 27 = .ok (.iaload, 1) := by decide +kernel
theorem dX3_link_28 : decode cX3_link 28 = .ok (.iconst 1, 1) := by decide +kernel
theorem dX3_link_29 : decode cX3_link 29 = .ok (.iload_n 1, 1) := by decide +kernel
theorem dX3_link_30 : decode cX3_link 30 = .ok (.ishl, 1) := by decide +kernel
theorem dX3_link_31 : decode cX3_link 31 = .ok (.ior, 1) := by decide +kernel
theorem dX3_link_32 : decode cX3_link 32 = .ok (.istore 4, 2) := by decide +kernel
theorem dX3_link_34 : decode cX3_link 34 = .ok (.iconst 0, 1) := by decide +kernel
theorem dX3_link_35 : decode cX3_link 35 = .ok (.istore 5, 2) := by decide +kernel
theorem dX3_link_37 : decode cX3_link 37 = .ok (.iload 5, 2) := by decide +kernel
theorem dX3_link_39 : decode cX3_link 39 = .ok (.aload_n 0, 1) := by decide +kernel
theorem dX3_link_40 : decode cX3_link 40 = .ok (.getfield 22, 3) := by decide +kernel
theorem dX3_link_43 : decode cX3_link 43 = .ok (.if_icmp .ge 37, 3) := by decide +kernel
theorem dX3_link_46 : decode cX3_link 46 = .ok (.iload 5, 2) := by decide +kernel
theorem dX3_link_48 : decode cX3_link 48 = .ok (.iload_n 2, 1) := by decide +kernel
theorem dX3_link_49 : decode cX3_link 49 = .ok (.if_icmp .eq 13, 3) := by decide +kernel
theorem dX3_link_52 : decode cX3_link 52 = .ok (.aload_n 0, 1) := by decide +kernel
theorem dX3_link_53 : decode cX3_link 53 = .ok (.iload_n 2, 1) := by decide +kernel
theorem dX3_link_54 : decode cX3_link 54 = .ok (.iload 5, 2) := by decide +kernel
theorem dX3_link_56 : decode cX3_link 56 = .ok (.invokevirtual 34, 3) := by decide +kernel
theorem dX3_link_59 : decode cX3_link 59 = .ok (.ifCond .eq 15, 3) := by decide +kernel
theorem dX3_link_62 : decode cX3_link 62 = .ok (.aload_n 0, 1) := by decide +kernel
theorem dX3_link_63 : decode cX3_link 63 = .ok (.getfield 9, 3) := by decide +kernel
theorem dX3_link_66 : decode cX3_link 66 = .ok (.iload 5, 2) := by decide +kernel
theorem dX3_link_68 : decode cX3_link 68 = .ok (.dup2, 1) := by decide +kernel
theorem dX3_link_69 : decode cX3_link 69 = .ok (.iaload, 1) := by decide +kernel
theorem dX3_link_70 : decode cX3_link 70 = .ok (.iload 4, 2) := by decide +kernel
theorem dX3_link_72 : decode cX3_link 72 = .ok (.ior, 1) := by decide +kernel
theorem dX3_link_73 : decode cX3_link 73 = .ok (.iastore, 1) := by decide +kernel
theorem dX3_link_74 : decode cX3_link 74 = .ok (.iinc 5 1, 3) := by decide +kernel
theorem dX3_link_77 : decode cX3_link 77 = .ok (.goto (-40), 3) := by decide +kernel
theorem dX3_link_80 : decode cX3_link 80 = .ok (.aload_n 0, 1) := by decide +kernel
theorem dX3_link_81 : decode cX3_link 81 = .ok (.invokevirtual 37, 3) := by decide +kernel
theorem dX3_link_84 : decode cX3_link 84 = .ok (.iload_n 3, 1) := by decide +kernel
theorem dX3_link_85 : decode cX3_link 85 = .ok (.isub, 1) := by decide +kernel
theorem dX3_link_86 : decode cX3_link 86 = .ok (.ireturn, 1) := by decide +kernel
theorem ic_m1 : Int32.ofInt (-1) = (-1) := by decide +kernel
theorem ic_0 : Int32.ofInt 0 = 0 := by decide +kernel
theorem ic_1 : Int32.ofInt 1 = 1 := by decide +kernel
theorem ic_2 : Int32.ofInt 2 = 2 := by decide +kernel
theorem ic_4 : Int32.ofInt 4 = 4 := by decide +kernel
theorem bc_m9 : (Int8.ofInt (-9)).toInt32 = (-9) := by decide +kernel
theorem bc_8 : (Int8.ofInt 8).toInt32 = 8 := by decide +kernel
theorem bc_9 : (Int8.ofInt 9).toInt32 = 9 := by decide +kernel
theorem bc_16 : (Int8.ofInt 16).toInt32 = 16 := by decide +kernel
theorem bc_63 : (Int8.ofInt 63).toInt32 = 63 := by decide +kernel
theorem k_X3_26 : LK RX3 26 yX6_has := Or.inr ⟨"Belowhouse", Tz_mem (tz1 (List.mem_of_getElem? (i := 170) rfl)) rfl⟩
theorem k_X3_71 : LK RX3 71 yX6_isWithin := Or.inr ⟨"Belowhouse", Tz_mem (tz1 (List.mem_of_getElem? (i := 173) rfl)) rfl⟩
theorem k_X1_15 : LK RX1 15 yX3_setLimit := Or.inl (Tz_mem (tz1 (List.mem_of_getElem? (i := 162) rfl)) rfl)
theorem k_X1_9 : LK RX1 9 yJ6_bitCount_0f7a4 := Or.inl (Tz_mem (tz4 (List.mem_of_getElem? (i := 14) rfl)) rfl)
theorem k_X1_21 : LK RX1 21 yX3_isClosedBelow := Or.inl (Tz_mem (tz1 (List.mem_of_getElem? (i := 166) rfl)) rfl)
theorem k_X3_30 : LK RX3 30 yX3_squeezed := Or.inl (Tz_mem (tz2 (List.mem_of_getElem? (i := 151) rfl)) rfl)
theorem k_X7_105 : LK RX7 105 yX7_levelOf := Or.inl (Tz_mem (tz6 (List.mem_of_getElem? (i := 108) rfl)) rfl)
theorem k_X3_60 : LK RX3 60 yJ6_bitCount_0f7a4 := Or.inl (Tz_mem (tz1 (List.mem_of_getElem? (i := 219) rfl)) rfl)
theorem k_X3_34 : LK RX3 34 yX3_isBelow := Or.inl (Tz_mem (tz2 (List.mem_of_getElem? (i := 189) rfl)) rfl)
theorem k_X3_37 : LK RX3 37 yX3_pairCount := Or.inl (Tz_mem (tz2 (List.mem_of_getElem? (i := 193) rfl)) rfl)
theorem kf_X3_22 : Cond.fieldLink RX3 22 RX3 "count" "I" ∈ Tz := Tz_mem (tz1 (List.mem_of_getElem? (i := 33) rfl)) rfl
theorem kf_X3_9 : Cond.fieldLink RX3 9 RX3 "below" "[I" ∈ Tz := Tz_mem (tz1 (List.mem_of_getElem? (i := 39) rfl)) rfl
theorem kf_X1_31 : Cond.fieldLink RX1 31 RX3 "count" "I" ∈ Tz := Tz_mem (tz1 (List.mem_of_getElem? (i := 38) rfl)) rfl
theorem kf_X3_15 : Cond.fieldLink RX3 15 RX3 "values" "[I" ∈ Tz := Tz_mem (tz1 (List.mem_of_getElem? (i := 43) rfl)) rfl
theorem kf_X7_9 : Cond.fieldLink RX7 9 RX7 "things" "[I" ∈ Tz := Tz_mem (tz5 (List.mem_of_getElem? (i := 130) rfl)) rfl
theorem kf_X7_20 : Cond.fieldLink RX7 20 RX7 "below" "[[[Z" ∈ Tz := Tz_mem (tz5 (List.mem_of_getElem? (i := 132) rfl)) rfl
theorem ky_X6_has : CY yX6_has cX6_has 2 (some .boolean) 2 := ⟨Tz_mem (tz1 (List.mem_of_getElem? (i := 172) rfl)) rfl, Tz_mem (tz1 (List.mem_of_getElem? (i := 1) rfl)) rfl, ⟨by decide +kernel, by decide +kernel⟩, by decide +kernel⟩
theorem ky_X6_isWithin : CY yX6_isWithin cX6_isWithin 2 (some .boolean) 2 := ⟨Tz_mem (tz1 (List.mem_of_getElem? (i := 175) rfl)) rfl, Tz_mem (tz1 (List.mem_of_getElem? (i := 1) rfl)) rfl, ⟨by decide +kernel, by decide +kernel⟩, by decide +kernel⟩
theorem ky_X3_setLimit : CY yX3_setLimit cX3_setLimit 1 (some .int) 0 := ⟨Tz_mem (tz1 (List.mem_of_getElem? (i := 165) rfl)) rfl, Tz_mem (tz1 (List.mem_of_getElem? (i := 2) rfl)) rfl, ⟨by decide +kernel, by decide +kernel⟩, by decide +kernel⟩
theorem ky_J6_bitCount_0f7a4 : CY yJ6_bitCount_0f7a4 cJ6_bitCount_0f7a4 1 (some .int) 1 := ⟨Tz_mem (tz1 (List.mem_of_getElem? (i := 199) rfl)) rfl, Tz_mem (tz1 (List.mem_of_getElem? (i := 13) rfl)) rfl, ⟨by decide +kernel, by decide +kernel⟩, by decide +kernel⟩
theorem ky_X3_isClosedBelow : CY yX3_isClosedBelow cX3_isClosedBelow 3 (some .boolean) 1 := ⟨Tz_mem (tz1 (List.mem_of_getElem? (i := 169) rfl)) rfl, Tz_mem (tz1 (List.mem_of_getElem? (i := 2) rfl)) rfl, ⟨by decide +kernel, by decide +kernel⟩, by decide +kernel⟩
theorem ky_X3_squeezed : CY yX3_squeezed cX3_squeezed 5 (some .int) 2 := ⟨Tz_mem (tz2 (List.mem_of_getElem? (i := 153) rfl)) rfl, Tz_mem (tz1 (List.mem_of_getElem? (i := 2) rfl)) rfl, ⟨by decide +kernel, by decide +kernel⟩, by decide +kernel⟩
theorem ky_X7_levelOf : CY yX7_levelOf cX7_levelOf 6 (some .int) 2 := ⟨Tz_mem (tz6 (List.mem_of_getElem? (i := 111) rfl)) rfl, Tz_mem (tz1 (List.mem_of_getElem? (i := 7) rfl)) rfl, ⟨by decide +kernel, by decide +kernel⟩, by decide +kernel⟩
theorem ky_X3_isBelow : CY yX3_isBelow cX3_isBelow 3 (some .boolean) 2 := ⟨Tz_mem (tz2 (List.mem_of_getElem? (i := 192) rfl)) rfl, Tz_mem (tz1 (List.mem_of_getElem? (i := 2) rfl)) rfl, ⟨by decide +kernel, by decide +kernel⟩, by decide +kernel⟩
theorem ky_X3_pairCount : CY yX3_pairCount cX3_pairCount 3 (some .int) 0 := ⟨Tz_mem (tz2 (List.mem_of_getElem? (i := 98) rfl)) rfl, Tz_mem (tz1 (List.mem_of_getElem? (i := 2) rfl)) rfl, ⟨by decide +kernel, by decide +kernel⟩, by decide +kernel⟩
theorem ks_X6_has : Cond.static yX6_has ∈ Tz := Tz_mem (tz1 (List.mem_of_getElem? (i := 171) rfl)) rfl
theorem ks_X6_isWithin : Cond.static yX6_isWithin ∈ Tz := Tz_mem (tz1 (List.mem_of_getElem? (i := 174) rfl)) rfl
theorem ks_J6_bitCount_0f7a4 : Cond.static yJ6_bitCount_0f7a4 ∈ Tz := Tz_mem (tz1 (List.mem_of_getElem? (i := 198) rfl)) rfl
theorem ks_X3_squeezed : Cond.static yX3_squeezed ∈ Tz := Tz_mem (tz2 (List.mem_of_getElem? (i := 152) rfl)) rfl
theorem kv_X3_setLimit : CYv yX3_setLimit := ⟨Tz_mem (tz1 (List.mem_of_getElem? (i := 163) rfl)) rfl, Tz_mem (tz1 (List.mem_of_getElem? (i := 164) rfl)) rfl⟩
theorem kv_X3_isClosedBelow : CYv yX3_isClosedBelow := ⟨Tz_mem (tz1 (List.mem_of_getElem? (i := 167) rfl)) rfl, Tz_mem (tz1 (List.mem_of_getElem? (i := 168) rfl)) rfl⟩
theorem kv_X7_levelOf : CYv yX7_levelOf := ⟨Tz_mem (tz6 (List.mem_of_getElem? (i := 110) rfl)) rfl, Tz_mem (tz0 (List.mem_of_getElem? (i := 45) rfl)) rfl⟩
theorem kv_X3_isBelow : CYv yX3_isBelow := ⟨Tz_mem (tz2 (List.mem_of_getElem? (i := 190) rfl)) rfl, Tz_mem (tz2 (List.mem_of_getElem? (i := 191) rfl)) rfl⟩
theorem kv_X3_pairCount : CYv yX3_pairCount := ⟨Tz_mem (tz2 (List.mem_of_getElem? (i := 96) rfl)) rfl, Tz_mem (tz2 (List.mem_of_getElem? (i := 97) rfl)) rfl⟩
theorem kk_J6_265 : Cond.constant RJ6 265 1431655765 ∈ Tz := Tz_mem (tz1 (List.mem_of_getElem? (i := 200) rfl)) rfl
theorem kk_J6_266 : Cond.constant RJ6 266 858993459 ∈ Tz := Tz_mem (tz1 (List.mem_of_getElem? (i := 201) rfl)) rfl
theorem kk_J6_267 : Cond.constant RJ6 267 252645135 ∈ Tz := Tz_mem (tz1 (List.mem_of_getElem? (i := 202) rfl)) rfl
def RD : Nat := 12
def f_X6_has (x0 : Int32) (x1 : Int32) : Option Int32 := if ((x0 >>> (x1 &&& 31)) &&& 1) = 0 then some 0 else some 1
def rm_X6_has : Room := { frames := 0, cells := 0, slots := 0, locals := 0 }
def f_X6_isWithin (x0 : Int32) (x1 : Int32) : Option Int32 := if (x0 &&& (x1 ^^^ ((-1)))) = 0 then some 1 else some 0
def rm_X6_isWithin : Room := { frames := 0, cells := 0, slots := 0, locals := 0 }
def g_X3_isClosedBelow_L2 (M : Mem) (q0 : Nat) (x1 : Int32)   (k2 : Int32 → Option Int32) (a : Int32) : Option Int32 := (fun (x2 : Int32) => if (M q0 0) ≤ x2 then some 1 else bd (f_X6_has x1 x2) (fun z12 => if z12 = 0 then k2 (x2 + 1) else chk (inb x2 9) (bd (f_X6_isWithin (M (q0 + 1) x2.toNatClampNeg) x1) (fun z25 => if z25 = 0 then some 0 else k2 (x2 + 1))))) a
def f_X3_isClosedBelow_L2 (M : Mem) (q0 : Nat) (x1 : Int32)   : Nat → Int32 → Option Int32 := lp (g_X3_isClosedBelow_L2 M q0 x1)
def f_X3_isClosedBelow (M : Mem) (q0 : Nat) (x1 : Int32) : Option Int32 := f_X3_isClosedBelow_L2 M q0 x1 FU 0
def rm_X3_isClosedBelow : Room := { frames := 1, cells := 0, slots := 0, locals := 21 }
def f_X3_setLimit (M : Mem) (q0 : Nat) : Option Int32 := some (1 <<< ((M q0 0) &&& 31))
def rm_X3_setLimit : Room := { frames := 0, cells := 0, slots := 0, locals := 0 }
def f_J6_bitCount_0f7a4 (x0 : Int32) : Option Int32 := bd (some (x0 - ((ush x0 1) &&& 1431655765))) (fun v9 => bd (some ((v9 &&& 858993459) + ((ush v9 2) &&& 858993459))) (fun v23 => bd (some ((v23 + (ush v23 4)) &&& 252645135)) (fun v33 => bd (some (v33 + (ush v33 8))) (fun v40 => bd (some (v40 + (ush v40 16))) (fun v47 => some (v47 &&& 63))))))
def rm_J6_bitCount_0f7a4 : Room := { frames := 0, cells := 0, slots := 0, locals := 0 }
def g_X1_findAt_L15 (M : Mem) (q0 : Nat) (x1 : Int32) (x3 : Int32)  (k4 : (Int32 × Int32) → Option Int32) (k15 : (Int32 × Int32) → Option Int32) (a : Int32 × Int32) : Option Int32 := (fun (x2 : Int32) (x4 : Int32) => bd (f_X3_setLimit M q0) (fun z18 => if z18 ≤ x4 then k4 (x2, (x3 + 1)) else bd (f_J6_bitCount_0f7a4 x4) (fun z26 => if z26 = x3 then bd (f_X3_isClosedBelow M q0 x4) (fun z36 => if z36 = 0 then k15 (x2, (x4 + 1)) else if x2 = x1 then some x4 else k15 ((x2 + 1), (x4 + 1))) else k15 (x2, (x4 + 1))))) a.1 a.2
def f_X1_findAt_L15 (M : Mem) (q0 : Nat) (x1 : Int32) (x3 : Int32)  (k4 : (Int32 × Int32) → Option Int32) : Nat → (Int32 × Int32) → Option Int32 := lp (g_X1_findAt_L15 M q0 x1 x3 k4)
def g_X1_findAt_L4 (M : Mem) (q0 : Nat) (x1 : Int32)   (k4 : (Int32 × Int32) → Option Int32) (a : Int32 × Int32) : Option Int32 := (fun (x2 : Int32) (x3 : Int32) => if (M q0 0) < x3 then some ((-1)) else f_X1_findAt_L15 M q0 x1 x3 k4 FU (x2, 0)) a.1 a.2
def f_X1_findAt_L4 (M : Mem) (q0 : Nat) (x1 : Int32)   : Nat → (Int32 × Int32) → Option Int32 := lp (g_X1_findAt_L4 M q0 x1)
def f_X1_findAt (M : Mem) (q0 : Nat) (x1 : Int32) : Option Int32 := f_X1_findAt_L4 M q0 x1 FU (0, 0)
def rm_X1_findAt : Room := { frames := 2, cells := 0, slots := 0, locals := 43 }
def g_X3_squeezed_L7 (x0 : Int32) (x1 : Int32)   (k7 : (Int32 × Int32 × Int32) → Option Int32) (a : Int32 × Int32 × Int32) : Option Int32 := (fun (x2 : Int32) (x3 : Int32) (x4 : Int32) => if 9 ≤ x4 then some x2 else bd (f_X6_has x1 x4) (fun z17 => if z17 = 0 then k7 (x2, x3, (x4 + 1)) else bd (f_X6_has x0 x4) (fun z26 => if z26 = 0 then k7 (x2, (x3 + 1), (x4 + 1)) else bd (some (x2 ||| (1 <<< (x3 &&& 31)))) (fun v37 => k7 (v37, (x3 + 1), (x4 + 1)))))) a.1 a.2.1 a.2.2
def f_X3_squeezed_L7 (x0 : Int32) (x1 : Int32)   : Nat → (Int32 × Int32 × Int32) → Option Int32 := lp (g_X3_squeezed_L7 x0 x1)
def f_X3_squeezed (x0 : Int32) (x1 : Int32) : Option Int32 := f_X3_squeezed_L7 x0 x1 FU (0, 0, 0)
def rm_X3_squeezed : Room := { frames := 1, cells := 0, slots := 0, locals := 21 }
def g_X3_retain_L4 (q0 : Nat) (x1 : Int32)   (k4 : (Int32 × Int32 × Mem) → Option Mem) (a : Int32 × Int32 × Mem) : Option Mem := (fun (x2 : Int32) (x3 : Int32) (M : Mem) => if (M q0 0) ≤ x3 then bd (some (upM M q0 0 x2)) (fun M59 => some M59) else bd (f_X6_has x1 x3) (fun z14 => if z14 = 0 then k4 (x2, (x3 + 1), M) else chk (inb x3 9) (bd (f_X3_squeezed (M (q0 + 1) x3.toNatClampNeg) x1) (fun z32 => chk (inb x2 9) (bd (some (upM M (q0 + 1) x2.toNatClampNeg z32)) (fun M35 => chk (inb x3 9) (chk (inb x2 9) (bd (some (upM M35 (q0 + 2) x2.toNatClampNeg (M35 (q0 + 2) x3.toNatClampNeg))) (fun M47 => k4 ((x2 + 1), (x3 + 1), M47)))))))))) a.1 a.2.1 a.2.2
def f_X3_retain_L4 (q0 : Nat) (x1 : Int32)   : Nat → (Int32 × Int32 × Mem) → Option Mem := lp (g_X3_retain_L4 q0 x1)
def f_X3_retain (M : Mem) (q0 : Nat) (x1 : Int32) : Option Mem := f_X3_retain_L4 q0 x1 FU (0, 0, M)
def rm_X3_retain : Room := { frames := 2, cells := 0, slots := 0, locals := 45 }
def g_X7_levelOf_L5 (M : Mem) (x1 : Int32) (x2 : Int32) (rec : (Mem × Int32 × Int32) → Option Int32)  (k5 : (Int32 × Int32) → Option Int32) (a : Int32 × Int32) : Option Int32 := (fun (x3 : Int32) (x4 : Int32) => chk (inb x1 5) (if (M 48 x1.toNatClampNeg) ≤ x4 then some (x3 + 1) else chk (inb x1 5) (chk (inb x4 9) (chk (inb x2 9) (if (M ((56 + 10 * x1.toNatClampNeg) + 1 + x4.toNatClampNeg) x2.toNatClampNeg) = 0 then if 0 ≤ x3 then k5 (x3, (x4 + 1)) else k5 (0, (x4 + 1)) else bd (rec (M, x1, x4)) (fun z34 => if z34 ≤ x3 then k5 (x3, (x4 + 1)) else k5 (z34, (x4 + 1)))))))) a.1 a.2
def f_X7_levelOf_L5 (M : Mem) (x1 : Int32) (x2 : Int32) (rec : (Mem × Int32 × Int32) → Option Int32)  : Nat → (Int32 × Int32) → Option Int32 := lp (g_X7_levelOf_L5 M x1 x2 rec)
def b_X7_levelOf (rec : (Mem × Int32 × Int32) → Option Int32) (a : Mem × Int32 × Int32) : Option Int32 := (fun (M : Mem) (x1 : Int32) (x2 : Int32) => f_X7_levelOf_L5 M x1 x2 rec FU (0, 0)) a.1 a.2.1 a.2.2
def f_X7_levelOf : Nat → (Mem × Int32 × Int32) → Option Int32 := lp b_X7_levelOf
def rm_X7_levelOf (n : Nat) : Room := { frames := 0 + n, cells := 0, slots := 0, locals := 0 + 25 * n }
def f_X3_isBelow (M : Mem) (q0 : Nat) (x1 : Int32) (x2 : Int32) : Option Int32 := chk (inb x2 9) (bd (f_X6_has (M (q0 + 1) x2.toNatClampNeg) x1) (fun z7 => chk (isb z7) (some z7)))
def rm_X3_isBelow : Room := { frames := 1, cells := 0, slots := 0, locals := 21 }
def g_X3_pairCount_L4 (M : Mem) (q0 : Nat)   (k4 : (Int32 × Int32) → Option Int32) (a : Int32 × Int32) : Option Int32 := (fun (x1 : Int32) (x2 : Int32) => if (M q0 0) ≤ x2 then some x1 else chk (inb x2 9) (bd (f_J6_bitCount_0f7a4 (M (q0 + 1) x2.toNatClampNeg)) (fun z19 => bd (some (x1 + z19)) (fun v23 => k4 (v23, (x2 + 1)))))) a.1 a.2
def f_X3_pairCount_L4 (M : Mem) (q0 : Nat)   : Nat → (Int32 × Int32) → Option Int32 := lp (g_X3_pairCount_L4 M q0)
def f_X3_pairCount (M : Mem) (q0 : Nat) : Option Int32 := f_X3_pairCount_L4 M q0 FU (0, 0)
def rm_X3_pairCount : Room := { frames := 1, cells := 0, slots := 0, locals := 20 }
def g_X3_link_L37 (q0 : Nat) (x2 : Int32) (x3 : Int32) (x4 : Int32)   (k37 : (Int32 × Mem) → Option (Int32 × Mem)) (a : Int32 × Mem) : Option (Int32 × Mem) := (fun (x5 : Int32) (M : Mem) => if (M q0 0) ≤ x5 then bd (f_X3_pairCount M q0) (fun z81 => some (z81 - x3, M)) else if x5 = x2 then chk (inb x5 9) (chk (inb x5 9) (bd (some (upM M (q0 + 1) x5.toNatClampNeg ((M (q0 + 1) x5.toNatClampNeg) ||| x4))) (fun M73 => k37 ((x5 + 1), M73)))) else bd (f_X3_isBelow M q0 x2 x5) (fun z56 => if z56 = 0 then k37 ((x5 + 1), M) else chk (inb x5 9) (chk (inb x5 9) (bd (some (upM M (q0 + 1) x5.toNatClampNeg ((M (q0 + 1) x5.toNatClampNeg) ||| x4))) (fun M73 => k37 ((x5 + 1), M73)))))) a.1 a.2
def f_X3_link_L37 (q0 : Nat) (x2 : Int32) (x3 : Int32) (x4 : Int32)   : Nat → (Int32 × Mem) → Option (Int32 × Mem) := lp (g_X3_link_L37 q0 x2 x3 x4)
def f_X3_link (M : Mem) (q0 : Nat) (x1 : Int32) (x2 : Int32) : Option (Int32 × Mem) := if x1 = x2 then some ((-9), M) else bd (f_X3_isBelow M q0 x2 x1) (fun z8 => if z8 = 0 then bd (f_X3_pairCount M q0) (fun z18 => chk (inb x1 9) (bd (some ((M (q0 + 1) x1.toNatClampNeg) ||| (1 <<< (x1 &&& 31)))) (fun v32 => f_X3_link_L37 q0 x2 z18 v32 FU (0, M)))) else some ((-9), M))
def rm_X3_link : Room := { frames := 2, cells := 0, slots := 0, locals := 43 }
section W1
variable {p : Program} {l : Launch} {e : Env} {s : State} {m : MethodId} {args : Array Value} {below : List Frame} {meth : Method} {c : Code} {B : Nat} {D : va_G} {Y : Nat → ClassId} {o : Ou}
set_option maxRecDepth 100000 in
theorem m_X6_has (l : Launch) (B : Nat) (D : va_G) (Y : Nat → ClassId) (o : Ou) {M0 : Mem} {x0 : Int32} {x1 : Int32} {r : Int32}  (hf : f_X6_has x0 x1 = some r) : MW l yX6_has cX6_has 2 (some .boolean) rm_X6_has B D Y o [.int x0, .int x1] M0 M0 (some (.int r)) := by
  refine ofAt (L0 := [(0, .int x0), (1, .int x1)]) (by decide +kernel) (Nat.le_of_ble_eq_true rfl) rfl (fun p e s m args below meth c C hr hk => ?_)
  dsimp only [f_X6_has] at hf
  refine A_iload_n C (pc := 0) 0 rfl dX6_has_0 ?_
  refine A_iload_n C (pc := 1) 1 rfl dX6_has_1 ?_
  refine A_ishr C (pc := 2) dX6_has_2 ?_
  refine A_iconst C (pc := 3) ic_1 dX6_has_3 ?_
  refine A_iand C (pc := 4) dX6_has_4 ?_
  refine A_if_eq C (pc := 5) 12 (by decide) dX6_has_5 hf (fun _ hf => ?_) (fun _ hf => ?_)
  · refine A_iconst C (pc := 12) ic_0 dX6_has_12 ?_
    exact R_iP C (pc := 13) hr hk nz_0 dX6_has_13 hf
  · refine A_iconst C (pc := 8) ic_1 dX6_has_8 ?_
    refine A_goto C (pc := 9) 13 (by decide) dX6_has_9 ?_
    exact R_iP C (pc := 13) hr hk nz_1 dX6_has_13 hf
set_option maxRecDepth 100000 in
theorem m_X6_isWithin (l : Launch) (B : Nat) (D : va_G) (Y : Nat → ClassId) (o : Ou) {M0 : Mem} {x0 : Int32} {x1 : Int32} {r : Int32}  (hf : f_X6_isWithin x0 x1 = some r) : MW l yX6_isWithin cX6_isWithin 2 (some .boolean) rm_X6_isWithin B D Y o [.int x0, .int x1] M0 M0 (some (.int r)) := by
  refine ofAt (L0 := [(0, .int x0), (1, .int x1)]) (by decide +kernel) (Nat.le_of_ble_eq_true rfl) rfl (fun p e s m args below meth c C hr hk => ?_)
  dsimp only [f_X6_isWithin] at hf
  refine A_iload_n C (pc := 0) 0 rfl dX6_isWithin_0 ?_
  refine A_iload_n C (pc := 1) 1 rfl dX6_isWithin_1 ?_
  refine A_iconst C (pc := 2) ic_m1 dX6_isWithin_2 ?_
  refine A_ixor C (pc := 3) dX6_isWithin_3 ?_
  refine A_iand C (pc := 4) dX6_isWithin_4 ?_
  refine A_if_ne C (pc := 5) 12 (by decide) dX6_isWithin_5 hf (fun _ hf => ?_) (fun _ hf => ?_)
  · refine A_iconst C (pc := 12) ic_0 dX6_isWithin_12 ?_
    exact R_iP C (pc := 13) hr hk nz_0 dX6_isWithin_13 hf
  · refine A_iconst C (pc := 8) ic_1 dX6_isWithin_8 ?_
    refine A_goto C (pc := 9) 13 (by decide) dX6_isWithin_9 ?_
    exact R_iP C (pc := 13) hr hk nz_1 dX6_isWithin_13 hf
set_option maxRecDepth 100000 in
theorem w_X3_isClosedBelow_L2 {M : Mem} {q0 : Nat} {x1 : Int32} {r : Int32} (C : Cx p s m args c cX3_isClosedBelow 3 RX3 B D Y) (hr : meth.sig.returnType = (some .boolean)) (hk : meth.locks = false) (hq0 : kd q0 = 2) : ∀ (n : Nat) (x2 : Int32), f_X3_isClosedBelow_L2 M q0 x1 n x2 = some r → At p l e rm_X3_isClosedBelow s m args below meth c 3 0 0 (QQ below args s B D Y M o (some (.int r))) B D Y o 2 M [(0, .ref (B + q0)), (1, .int x1), (2, .int x2)] [] := by
  intro n
  induction n with
  | zero => intro x2 hf; exact nomatch (show (none : Option Int32) = some r from hf)
  | succ n hk2 =>
    intro x2 hf
    replace hf : g_X3_isClosedBelow_L2 M q0 x1 (f_X3_isClosedBelow_L2 M q0 x1 n) x2 = some r := hf
    dsimp only [g_X3_isClosedBelow_L2] at hf
    refine A_iload_n C (pc := 2) 2 rfl dX3_isClosedBelow_2 ?_
    refine A_aload_n C (pc := 3) 0 rfl dX3_isClosedBelow_3 ?_
    refine A_g3_0 C (pc := 4) hq0 kf_X3_22 dX3_isClosedBelow_4 ?_
    refine A_icmp_ge C (pc := 7) 39 (by decide) dX3_isClosedBelow_7 hf (fun _ hf => ?_) (fun _ hf => ?_)
    · refine A_iconst C (pc := 39) ic_1 dX3_isClosedBelow_39 ?_
      exact R_iP C (pc := 40) hr hk nz_1 dX3_isClosedBelow_40 hf
    · refine A_iload_n C (pc := 10) 1 rfl dX3_isClosedBelow_10 ?_
      refine A_iload_n C (pc := 11) 2 rfl dX3_isClosedBelow_11 ?_
      obtain ⟨z12, h12, hf⟩ := bd_i hf
      refine A_callS1 C (pc := 12) (A := [.int x1, .int x2]) (rest := []) k_X3_26 ky_X6_has ks_X6_has (m_X6_has l B D Y o  h12) rfl rfl (Nat.le_of_ble_eq_true rfl) ⟨rfl, rfl, Nat.le_of_ble_eq_true rfl, Nat.le_of_ble_eq_true rfl⟩ ⟨Nat.zero_le _, Nat.zero_le _⟩ dX3_isClosedBelow_12 ?_
      refine A_if_eq C (pc := 15) 33 (by decide) dX3_isClosedBelow_15 hf (fun _ hf => ?_) (fun _ hf => ?_)
      · refine A_iinc C (pc := 33) (k0 := 2) [(0, .ref (B + q0)), (1, .int x1), (2, .int (x2 + 1))] rfl ic_1 (by decide) [1, 2, 0] rfl dX3_isClosedBelow_33 ?_
        refine A_goto C (pc := 36) 2 (by decide) dX3_isClosedBelow_36 ?_
        exact hk2 _ hf
      · refine A_aload_n C (pc := 18) 0 rfl dX3_isClosedBelow_18 ?_
        refine A_g3_1 C (pc := 19) hq0 kf_X3_9 dX3_isClosedBelow_19 ?_
        refine A_iload_n C (pc := 22) 2 rfl dX3_isClosedBelow_22 ?_
        obtain ⟨c23, hf⟩ := chk_i hf
        refine A_iald C (pc := 23) (iO1 hq0) c23 dX3_isClosedBelow_23 ?_
        refine A_iload_n C (pc := 24) 1 rfl dX3_isClosedBelow_24 ?_
        obtain ⟨z25, h25, hf⟩ := bd_i hf
        refine A_callS1 C (pc := 25) (A := [.int (M (q0 + 1) x2.toNatClampNeg), .int x1]) (rest := []) k_X3_71 ky_X6_isWithin ks_X6_isWithin (m_X6_isWithin l B D Y o  h25) rfl rfl (Nat.le_of_ble_eq_true rfl) ⟨rfl, rfl, Nat.le_of_ble_eq_true rfl, Nat.le_of_ble_eq_true rfl⟩ ⟨Nat.zero_le _, Nat.zero_le _⟩ dX3_isClosedBelow_25 ?_
        refine A_if_ne C (pc := 28) 33 (by decide) dX3_isClosedBelow_28 hf (fun _ hf => ?_) (fun _ hf => ?_)
        · refine A_iinc C (pc := 33) (k0 := 2) [(0, .ref (B + q0)), (1, .int x1), (2, .int (x2 + 1))] rfl ic_1 (by decide) [1, 2, 0] rfl dX3_isClosedBelow_33 ?_
          refine A_goto C (pc := 36) 2 (by decide) dX3_isClosedBelow_36 ?_
          exact hk2 _ hf
        · refine A_iconst C (pc := 31) ic_0 dX3_isClosedBelow_31 ?_
          exact R_iP C (pc := 32) hr hk nz_0 dX3_isClosedBelow_32 hf
set_option maxRecDepth 100000 in
theorem m_X3_isClosedBelow (l : Launch) (B : Nat) (D : va_G) (Y : Nat → ClassId) (o : Ou) {M : Mem} {q0 : Nat} {x1 : Int32} {r : Int32} (hq0 : kd q0 = 2) (hf : f_X3_isClosedBelow M q0 x1 = some r) : MW l yX3_isClosedBelow cX3_isClosedBelow 3 (some .boolean) rm_X3_isClosedBelow B D Y o [.ref (B + q0), .int x1] M M (some (.int r)) := by
  refine ofAt (L0 := [(0, .ref (B + q0)), (1, .int x1)]) (by decide +kernel) (Nat.le_of_ble_eq_true rfl) rfl (fun p e s m args below meth c C hr hk => ?_)
  dsimp only [f_X3_isClosedBelow] at hf
  refine A_iconst C (pc := 0) ic_0 dX3_isClosedBelow_0 ?_
  refine A_istore_n C (pc := 1) [(0, .ref (B + q0)), (1, .int x1), (2, .int 0)] rfl (by decide) [1, 2, 0] rfl dX3_isClosedBelow_1 ?_
  exact w_X3_isClosedBelow_L2 C hr hk hq0 FU _  hf
set_option maxRecDepth 100000 in
theorem m_X3_setLimit (l : Launch) (B : Nat) (D : va_G) (Y : Nat → ClassId) (o : Ou) {M : Mem} {q0 : Nat} {r : Int32} (hq0 : kd q0 = 2) (hf : f_X3_setLimit M q0 = some r) : MW l yX3_setLimit cX3_setLimit 1 (some .int) rm_X3_setLimit B D Y o [.ref (B + q0)] M M (some (.int r)) := by
  refine ofAt (L0 := [(0, .ref (B + q0))]) (by decide +kernel) (Nat.le_of_ble_eq_true rfl) rfl (fun p e s m args below meth c C hr hk => ?_)
  dsimp only [f_X3_setLimit] at hf
  refine A_iconst C (pc := 0) ic_1 dX3_setLimit_0 ?_
  refine A_aload_n C (pc := 1) 0 rfl dX3_setLimit_1 ?_
  refine A_g3_0 C (pc := 2) hq0 kf_X3_22 dX3_setLimit_2 ?_
  refine A_ishl C (pc := 5) dX3_setLimit_5 ?_
  exact R_iP C (pc := 6) hr hk rfl dX3_setLimit_6 hf
set_option maxRecDepth 100000 in
theorem m_J6_bitCount_0f7a4 (l : Launch) (B : Nat) (D : va_G) (Y : Nat → ClassId) (o : Ou) {M0 : Mem} {x0 : Int32} {r : Int32}  (hf : f_J6_bitCount_0f7a4 x0 = some r) : MW l yJ6_bitCount_0f7a4 cJ6_bitCount_0f7a4 1 (some .int) rm_J6_bitCount_0f7a4 B D Y o [.int x0] M0 M0 (some (.int r)) := by
  refine ofAt (L0 := [(0, .int x0)]) (by decide +kernel) (Nat.le_of_ble_eq_true rfl) rfl (fun p e s m args below meth c C hr hk => ?_)
  dsimp only [f_J6_bitCount_0f7a4] at hf
  refine A_iload_n C (pc := 0) 0 rfl dJ6_bitCount_0f7a4_0 ?_
  refine A_iload_n C (pc := 1) 0 rfl dJ6_bitCount_0f7a4_1 ?_
  refine A_iconst C (pc := 2) ic_1 dJ6_bitCount_0f7a4_2 ?_
  refine A_iushr C (pc := 3) dJ6_bitCount_0f7a4_3 ?_
  refine A_ldcw C (pc := 4) kk_J6_265 dJ6_bitCount_0f7a4_4 ?_
  refine A_iand C (pc := 7) dJ6_bitCount_0f7a4_7 ?_
  refine A_isub C (pc := 8) dJ6_bitCount_0f7a4_8 ?_
  obtain ⟨v9, e9, hf⟩ := bd_i hf
  refine A_nmI e9 ?_
  refine A_istore_n C (pc := 9) [(0, .int v9)] rfl (by decide) [0] rfl dJ6_bitCount_0f7a4_9 ?_
  refine A_iload_n C (pc := 10) 0 rfl dJ6_bitCount_0f7a4_10 ?_
  refine A_ldcw C (pc := 11) kk_J6_266 dJ6_bitCount_0f7a4_11 ?_
  refine A_iand C (pc := 14) dJ6_bitCount_0f7a4_14 ?_
  refine A_iload_n C (pc := 15) 0 rfl dJ6_bitCount_0f7a4_15 ?_
  refine A_iconst C (pc := 16) ic_2 dJ6_bitCount_0f7a4_16 ?_
  refine A_iushr C (pc := 17) dJ6_bitCount_0f7a4_17 ?_
  refine A_ldcw C (pc := 18) kk_J6_266 dJ6_bitCount_0f7a4_18 ?_
  refine A_iand C (pc := 21) dJ6_bitCount_0f7a4_21 ?_
  refine A_iadd C (pc := 22) dJ6_bitCount_0f7a4_22 ?_
  obtain ⟨v23, e23, hf⟩ := bd_i hf
  refine A_nmI e23 ?_
  refine A_istore_n C (pc := 23) [(0, .int v23)] rfl (by decide) [0] rfl dJ6_bitCount_0f7a4_23 ?_
  refine A_iload_n C (pc := 24) 0 rfl dJ6_bitCount_0f7a4_24 ?_
  refine A_iload_n C (pc := 25) 0 rfl dJ6_bitCount_0f7a4_25 ?_
  refine A_iconst C (pc := 26) ic_4 dJ6_bitCount_0f7a4_26 ?_
  refine A_iushr C (pc := 27) dJ6_bitCount_0f7a4_27 ?_
  refine A_iadd C (pc := 28) dJ6_bitCount_0f7a4_28 ?_
  refine A_ldcw C (pc := 29) kk_J6_267 dJ6_bitCount_0f7a4_29 ?_
  refine A_iand C (pc := 32) dJ6_bitCount_0f7a4_32 ?_
  obtain ⟨v33, e33, hf⟩ := bd_i hf
  refine A_nmI e33 ?_
  refine A_istore_n C (pc := 33) [(0, .int v33)] rfl (by decide) [0] rfl dJ6_bitCount_0f7a4_33 ?_
  refine A_iload_n C (pc := 34) 0 rfl dJ6_bitCount_0f7a4_34 ?_
  refine A_iload_n C (pc := 35) 0 rfl dJ6_bitCount_0f7a4_35 ?_
  refine A_bipush C (pc := 36) bc_8 dJ6_bitCount_0f7a4_36 ?_
  refine A_iushr C (pc := 38) dJ6_bitCount_0f7a4_38 ?_
  refine A_iadd C (pc := 39) dJ6_bitCount_0f7a4_39 ?_
  obtain ⟨v40, e40, hf⟩ := bd_i hf
  refine A_nmI e40 ?_
  refine A_istore_n C (pc := 40) [(0, .int v40)] rfl (by decide) [0] rfl dJ6_bitCount_0f7a4_40 ?_
  refine A_iload_n C (pc := 41) 0 rfl dJ6_bitCount_0f7a4_41 ?_
  refine A_iload_n C (pc := 42) 0 rfl dJ6_bitCount_0f7a4_42 ?_
  refine A_bipush C (pc := 43) bc_16 dJ6_bitCount_0f7a4_43 ?_
  refine A_iushr C (pc := 45) dJ6_bitCount_0f7a4_45 ?_
  refine A_iadd C (pc := 46) dJ6_bitCount_0f7a4_46 ?_
  obtain ⟨v47, e47, hf⟩ := bd_i hf
  refine A_nmI e47 ?_
  refine A_istore_n C (pc := 47) [(0, .int v47)] rfl (by decide) [0] rfl dJ6_bitCount_0f7a4_47 ?_
  refine A_iload_n C (pc := 48) 0 rfl dJ6_bitCount_0f7a4_48 ?_
  refine A_bipush C (pc := 49) bc_63 dJ6_bitCount_0f7a4_49 ?_
  refine A_iand C (pc := 51) dJ6_bitCount_0f7a4_51 ?_
  exact R_iP C (pc := 52) hr hk rfl dJ6_bitCount_0f7a4_52 hf
set_option maxRecDepth 100000 in
theorem w_X1_findAt_L15 {M : Mem} {q0 : Nat} {x1 : Int32} {x3 : Int32} {r : Int32} (C : Cx p s m args c cX1_findAt 5 RX1 B D Y) (hr : meth.sig.returnType = (some .int)) (hk : meth.locks = false) (hq0 : kd q0 = 2) {k4 : (Int32 × Int32) → Option Int32} (hk4 : ∀ (x2 : Int32) (x3 : Int32), k4 (x2, x3) = some r → At p l e rm_X1_findAt s m args below meth c 5 0 0 (QQ below args s B D Y M o (some (.int r))) B D Y o 4 M [(0, .ref (B + q0)), (1, .int x1), (2, .int x2), (3, .int x3)] []) : ∀ (n : Nat) (x2 : Int32) (x4 : Int32), f_X1_findAt_L15 M q0 x1 x3 k4 n (x2, x4) = some r → At p l e rm_X1_findAt s m args below meth c 5 0 0 (QQ below args s B D Y M o (some (.int r))) B D Y o 15 M [(0, .ref (B + q0)), (1, .int x1), (2, .int x2), (3, .int x3), (4, .int x4)] [] := by
  intro n
  induction n with
  | zero => intro x2 x4 hf; exact nomatch (show (none : Option Int32) = some r from hf)
  | succ n hk15 =>
    intro x2 x4 hf
    replace hf : g_X1_findAt_L15 M q0 x1 x3 k4 (f_X1_findAt_L15 M q0 x1 x3 k4 n) (x2, x4) = some r := hf
    dsimp only [g_X1_findAt_L15] at hf
    refine A_iload C (pc := 15) 4 rfl dX1_findAt_15 ?_
    refine A_aload_n C (pc := 17) 0 rfl dX1_findAt_17 ?_
    obtain ⟨z18, h18, hf⟩ := bd_i hf
    refine A_callV1 C (pc := 18) (A := []) (rest := [.int x4]) k_X1_15 ky_X3_setLimit kv_X3_setLimit (m_X3_setLimit l B D Y o hq0 h18) (kO hq0).1 (ent2 hq0) rfl rfl rfl (Nat.le_of_ble_eq_true rfl) ⟨rfl, rfl, Nat.le_of_ble_eq_true rfl, Nat.le_of_ble_eq_true rfl⟩ ⟨Nat.zero_le _, Nat.zero_le _⟩ dX1_findAt_18 ?_
    refine A_icmp_ge C (pc := 21) 59 (by decide) dX1_findAt_21 hf (fun _ hf => ?_) (fun _ hf => ?_)
    · refine A_iinc C (pc := 59) (k0 := 3) [(0, .ref (B + q0)), (1, .int x1), (2, .int x2), (3, .int (x3 + 1))] rfl ic_1 (by decide) [1, 2, 3, 0] rfl dX1_findAt_59 ?_
      refine A_goto C (pc := 62) 4 (by decide) dX1_findAt_62 ?_
      exact hk4 _ _ hf
    · refine A_iload C (pc := 24) 4 rfl dX1_findAt_24 ?_
      obtain ⟨z26, h26, hf⟩ := bd_i hf
      refine A_callS1 C (pc := 26) (A := [.int x4]) (rest := []) k_X1_9 ky_J6_bitCount_0f7a4 ks_J6_bitCount_0f7a4 (m_J6_bitCount_0f7a4 l B D Y o  h26) rfl rfl (Nat.le_of_ble_eq_true rfl) ⟨rfl, rfl, Nat.le_of_ble_eq_true rfl, Nat.le_of_ble_eq_true rfl⟩ ⟨Nat.zero_le _, Nat.zero_le _⟩ dX1_findAt_26 ?_
      refine A_iload_n C (pc := 29) 3 rfl dX1_findAt_29 ?_
      refine A_icmp_ne C (pc := 30) 53 (by decide) dX1_findAt_30 hf (fun _ hf => ?_) (fun _ hf => ?_)
      · refine A_iinc C (pc := 53) (k0 := 4) [(0, .ref (B + q0)), (1, .int x1), (2, .int x2), (3, .int x3), (4, .int (x4 + 1))] rfl ic_1 (by decide) [1, 2, 3, 4, 0] rfl dX1_findAt_53 ?_
        refine A_goto C (pc := 56) 15 (by decide) dX1_findAt_56 ?_
        exact hk15 _ _ hf
      · refine A_aload_n C (pc := 33) 0 rfl dX1_findAt_33 ?_
        refine A_iload C (pc := 34) 4 rfl dX1_findAt_34 ?_
        obtain ⟨z36, h36, hf⟩ := bd_i hf
        refine A_callV1 C (pc := 36) (A := [.int x4]) (rest := []) k_X1_21 ky_X3_isClosedBelow kv_X3_isClosedBelow (m_X3_isClosedBelow l B D Y o hq0 h36) (kO hq0).1 (ent2 hq0) rfl rfl rfl (Nat.le_of_ble_eq_true rfl) ⟨rfl, rfl, Nat.le_of_ble_eq_true rfl, Nat.le_of_ble_eq_true rfl⟩ ⟨Nat.zero_le _, Nat.zero_le _⟩ dX1_findAt_36 ?_
        refine A_if_eq C (pc := 39) 53 (by decide) dX1_findAt_39 hf (fun _ hf => ?_) (fun _ hf => ?_)
        · refine A_iinc C (pc := 53) (k0 := 4) [(0, .ref (B + q0)), (1, .int x1), (2, .int x2), (3, .int x3), (4, .int (x4 + 1))] rfl ic_1 (by decide) [1, 2, 3, 4, 0] rfl dX1_findAt_53 ?_
          refine A_goto C (pc := 56) 15 (by decide) dX1_findAt_56 ?_
          exact hk15 _ _ hf
        · refine A_iload_n C (pc := 42) 2 rfl dX1_findAt_42 ?_
          refine A_iload_n C (pc := 43) 1 rfl dX1_findAt_43 ?_
          refine A_icmp_ne C (pc := 44) 50 (by decide) dX1_findAt_44 hf (fun _ hf => ?_) (fun _ hf => ?_)
          · refine A_iinc C (pc := 50) (k0 := 2) [(0, .ref (B + q0)), (1, .int x1), (2, .int (x2 + 1)), (3, .int x3), (4, .int x4)] rfl ic_1 (by decide) [1, 2, 0, 3, 4] rfl dX1_findAt_50 ?_
            refine A_iinc C (pc := 53) (k0 := 4) [(0, .ref (B + q0)), (1, .int x1), (2, .int (x2 + 1)), (3, .int x3), (4, .int (x4 + 1))] rfl ic_1 (by decide) [1, 2, 3, 4, 0] rfl dX1_findAt_53 ?_
            refine A_goto C (pc := 56) 15 (by decide) dX1_findAt_56 ?_
            exact hk15 _ _ hf
          · refine A_iload C (pc := 47) 4 rfl dX1_findAt_47 ?_
            exact R_iP C (pc := 49) hr hk rfl dX1_findAt_49 hf
set_option maxRecDepth 100000 in
theorem w_X1_findAt_L4 {M : Mem} {q0 : Nat} {x1 : Int32} {r : Int32} (C : Cx p s m args c cX1_findAt 5 RX1 B D Y) (hr : meth.sig.returnType = (some .int)) (hk : meth.locks = false) (hq0 : kd q0 = 2) : ∀ (n : Nat) (x2 : Int32) (x3 : Int32), f_X1_findAt_L4 M q0 x1 n (x2, x3) = some r → At p l e rm_X1_findAt s m args below meth c 5 0 0 (QQ below args s B D Y M o (some (.int r))) B D Y o 4 M [(0, .ref (B + q0)), (1, .int x1), (2, .int x2), (3, .int x3)] [] := by
  intro n
  induction n with
  | zero => intro x2 x3 hf; exact nomatch (show (none : Option Int32) = some r from hf)
  | succ n hk4 =>
    intro x2 x3 hf
    replace hf : g_X1_findAt_L4 M q0 x1 (f_X1_findAt_L4 M q0 x1 n) (x2, x3) = some r := hf
    dsimp only [g_X1_findAt_L4] at hf
    refine A_iload_n C (pc := 4) 3 rfl dX1_findAt_4 ?_
    refine A_aload_n C (pc := 5) 0 rfl dX1_findAt_5 ?_
    refine A_g3_0 C (pc := 6) hq0 kf_X1_31 dX1_findAt_6 ?_
    refine A_icmp_gt C (pc := 9) 65 (by decide) dX1_findAt_9 hf (fun _ hf => ?_) (fun _ hf => ?_)
    · refine A_iconst C (pc := 65) ic_m1 dX1_findAt_65 ?_
      exact R_iP C (pc := 66) hr hk rfl dX1_findAt_66 hf
    · refine A_iconst C (pc := 12) ic_0 dX1_findAt_12 ?_
      refine A_istore C (pc := 13) [(0, .ref (B + q0)), (1, .int x1), (2, .int x2), (3, .int x3), (4, .int 0)] (by decide) [1, 2, 3, 4, 0] rfl dX1_findAt_13 ?_
      exact w_X1_findAt_L15 C hr hk hq0 hk4 FU _ _  hf
set_option maxRecDepth 100000 in
theorem m_X1_findAt (l : Launch) (B : Nat) (D : va_G) (Y : Nat → ClassId) (o : Ou) {M : Mem} {q0 : Nat} {x1 : Int32} {r : Int32} (hq0 : kd q0 = 2) (hf : f_X1_findAt M q0 x1 = some r) : MW l yX1_findAt cX1_findAt 5 (some .int) rm_X1_findAt B D Y o [.ref (B + q0), .int x1] M M (some (.int r)) := by
  refine ofAt (L0 := [(0, .ref (B + q0)), (1, .int x1)]) (by decide +kernel) (Nat.le_of_ble_eq_true rfl) rfl (fun p e s m args below meth c C hr hk => ?_)
  dsimp only [f_X1_findAt] at hf
  refine A_iconst C (pc := 0) ic_0 dX1_findAt_0 ?_
  refine A_istore_n C (pc := 1) [(0, .ref (B + q0)), (1, .int x1), (2, .int 0)] rfl (by decide) [1, 2, 0] rfl dX1_findAt_1 ?_
  refine A_iconst C (pc := 2) ic_0 dX1_findAt_2 ?_
  refine A_istore_n C (pc := 3) [(0, .ref (B + q0)), (1, .int x1), (2, .int 0), (3, .int 0)] rfl (by decide) [1, 2, 3, 0] rfl dX1_findAt_3 ?_
  exact w_X1_findAt_L4 C hr hk hq0 FU _ _  hf
set_option maxRecDepth 100000 in
theorem w_X3_squeezed_L7 {M0 : Mem} {x0 : Int32} {x1 : Int32} {r : Int32} (C : Cx p s m args c cX3_squeezed 5 RX3 B D Y) (hr : meth.sig.returnType = (some .int)) (hk : meth.locks = false)  : ∀ (n : Nat) (x2 : Int32) (x3 : Int32) (x4 : Int32), f_X3_squeezed_L7 x0 x1 n (x2, x3, x4) = some r → At p l e rm_X3_squeezed s m args below meth c 5 0 0 (QQ below args s B D Y M0 o (some (.int r))) B D Y o 7 M0 [(0, .int x0), (1, .int x1), (2, .int x2), (3, .int x3), (4, .int x4)] [] := by
  intro n
  induction n with
  | zero => intro x2 x3 x4 hf; exact nomatch (show (none : Option Int32) = some r from hf)
  | succ n hk7 =>
    intro x2 x3 x4 hf
    replace hf : g_X3_squeezed_L7 x0 x1 (f_X3_squeezed_L7 x0 x1 n) (x2, x3, x4) = some r := hf
    dsimp only [g_X3_squeezed_L7] at hf
    refine A_iload C (pc := 7) 4 rfl dX3_squeezed_7 ?_
    refine A_bipush C (pc := 9) bc_9 dX3_squeezed_9 ?_
    refine A_icmp_ge C (pc := 11) 47 (by decide) dX3_squeezed_11 hf (fun _ hf => ?_) (fun _ hf => ?_)
    · refine A_iload_n C (pc := 47) 2 rfl dX3_squeezed_47 ?_
      exact R_iP C (pc := 48) hr hk rfl dX3_squeezed_48 hf
    · refine A_iload_n C (pc := 14) 1 rfl dX3_squeezed_14 ?_
      refine A_iload C (pc := 15) 4 rfl dX3_squeezed_15 ?_
      obtain ⟨z17, h17, hf⟩ := bd_i hf
      refine A_callS1 C (pc := 17) (A := [.int x1, .int x4]) (rest := []) k_X3_26 ky_X6_has ks_X6_has (m_X6_has l B D Y o  h17) rfl rfl (Nat.le_of_ble_eq_true rfl) ⟨rfl, rfl, Nat.le_of_ble_eq_true rfl, Nat.le_of_ble_eq_true rfl⟩ ⟨Nat.zero_le _, Nat.zero_le _⟩ dX3_squeezed_17 ?_
      refine A_if_eq C (pc := 20) 41 (by decide) dX3_squeezed_20 hf (fun _ hf => ?_) (fun _ hf => ?_)
      · refine A_iinc C (pc := 41) (k0 := 4) [(0, .int x0), (1, .int x1), (2, .int x2), (3, .int x3), (4, .int (x4 + 1))] rfl ic_1 (by decide) [1, 2, 3, 4, 0] rfl dX3_squeezed_41 ?_
        refine A_goto C (pc := 44) 7 (by decide) dX3_squeezed_44 ?_
        exact hk7 _ _ _ hf
      · refine A_iload_n C (pc := 23) 0 rfl dX3_squeezed_23 ?_
        refine A_iload C (pc := 24) 4 rfl dX3_squeezed_24 ?_
        obtain ⟨z26, h26, hf⟩ := bd_i hf
        refine A_callS1 C (pc := 26) (A := [.int x0, .int x4]) (rest := []) k_X3_26 ky_X6_has ks_X6_has (m_X6_has l B D Y o  h26) rfl rfl (Nat.le_of_ble_eq_true rfl) ⟨rfl, rfl, Nat.le_of_ble_eq_true rfl, Nat.le_of_ble_eq_true rfl⟩ ⟨Nat.zero_le _, Nat.zero_le _⟩ dX3_squeezed_26 ?_
        refine A_if_eq C (pc := 29) 38 (by decide) dX3_squeezed_29 hf (fun _ hf => ?_) (fun _ hf => ?_)
        · refine A_iinc C (pc := 38) (k0 := 3) [(0, .int x0), (1, .int x1), (2, .int x2), (3, .int (x3 + 1)), (4, .int x4)] rfl ic_1 (by decide) [1, 2, 3, 0, 4] rfl dX3_squeezed_38 ?_
          refine A_iinc C (pc := 41) (k0 := 4) [(0, .int x0), (1, .int x1), (2, .int x2), (3, .int (x3 + 1)), (4, .int (x4 + 1))] rfl ic_1 (by decide) [1, 2, 3, 4, 0] rfl dX3_squeezed_41 ?_
          refine A_goto C (pc := 44) 7 (by decide) dX3_squeezed_44 ?_
          exact hk7 _ _ _ hf
        · refine A_iload_n C (pc := 32) 2 rfl dX3_squeezed_32 ?_
          refine A_iconst C (pc := 33) ic_1 dX3_squeezed_33 ?_
          refine A_iload_n C (pc := 34) 3 rfl dX3_squeezed_34 ?_
          refine A_ishl C (pc := 35) dX3_squeezed_35 ?_
          refine A_ior C (pc := 36) dX3_squeezed_36 ?_
          obtain ⟨v37, e37, hf⟩ := bd_i hf
          refine A_nmI e37 ?_
          refine A_istore_n C (pc := 37) [(0, .int x0), (1, .int x1), (2, .int v37), (3, .int x3), (4, .int x4)] rfl (by decide) [1, 2, 0, 3, 4] rfl dX3_squeezed_37 ?_
          refine A_iinc C (pc := 38) (k0 := 3) [(0, .int x0), (1, .int x1), (2, .int v37), (3, .int (x3 + 1)), (4, .int x4)] rfl ic_1 (by decide) [1, 2, 3, 0, 4] rfl dX3_squeezed_38 ?_
          refine A_iinc C (pc := 41) (k0 := 4) [(0, .int x0), (1, .int x1), (2, .int v37), (3, .int (x3 + 1)), (4, .int (x4 + 1))] rfl ic_1 (by decide) [1, 2, 3, 4, 0] rfl dX3_squeezed_41 ?_
          refine A_goto C (pc := 44) 7 (by decide) dX3_squeezed_44 ?_
          exact hk7 _ _ _ hf
set_option maxRecDepth 100000 in
theorem m_X3_squeezed (l : Launch) (B : Nat) (D : va_G) (Y : Nat → ClassId) (o : Ou) {M0 : Mem} {x0 : Int32} {x1 : Int32} {r : Int32}  (hf : f_X3_squeezed x0 x1 = some r) : MW l yX3_squeezed cX3_squeezed 5 (some .int) rm_X3_squeezed B D Y o [.int x0, .int x1] M0 M0 (some (.int r)) := by
  refine ofAt (L0 := [(0, .int x0), (1, .int x1)]) (by decide +kernel) (Nat.le_of_ble_eq_true rfl) rfl (fun p e s m args below meth c C hr hk => ?_)
  dsimp only [f_X3_squeezed] at hf
  refine A_iconst C (pc := 0) ic_0 dX3_squeezed_0 ?_
  refine A_istore_n C (pc := 1) [(0, .int x0), (1, .int x1), (2, .int 0)] rfl (by decide) [1, 2, 0] rfl dX3_squeezed_1 ?_
  refine A_iconst C (pc := 2) ic_0 dX3_squeezed_2 ?_
  refine A_istore_n C (pc := 3) [(0, .int x0), (1, .int x1), (2, .int 0), (3, .int 0)] rfl (by decide) [1, 2, 3, 0] rfl dX3_squeezed_3 ?_
  refine A_iconst C (pc := 4) ic_0 dX3_squeezed_4 ?_
  refine A_istore C (pc := 5) [(0, .int x0), (1, .int x1), (2, .int 0), (3, .int 0), (4, .int 0)] (by decide) [1, 2, 3, 4, 0] rfl dX3_squeezed_5 ?_
  exact w_X3_squeezed_L7 C hr hk FU _ _ _  hf
set_option maxRecDepth 100000 in
theorem w_X3_retain_L4 {q0 : Nat} {x1 : Int32} {r : Mem} (C : Cx p s m args c cX3_retain 4 RX3 B D Y) (hr : meth.sig.returnType = none) (hk : meth.locks = false) (hq0 : kd q0 = 2) : ∀ (n : Nat) (x2 : Int32) (x3 : Int32) (M : Mem), f_X3_retain_L4 q0 x1 n (x2, x3, M) = some r → At p l e rm_X3_retain s m args below meth c 4 0 0 (QQ below args s B D Y r o none) B D Y o 4 M [(0, .ref (B + q0)), (1, .int x1), (2, .int x2), (3, .int x3)] [] := by
  intro n
  induction n with
  | zero => intro x2 x3 M hf; exact nomatch (show (none : Option Mem) = some r from hf)
  | succ n hk4 =>
    intro x2 x3 M hf
    replace hf : g_X3_retain_L4 q0 x1 (f_X3_retain_L4 q0 x1 n) (x2, x3, M) = some r := hf
    dsimp only [g_X3_retain_L4] at hf
    refine A_iload_n C (pc := 4) 3 rfl dX3_retain_4 ?_
    refine A_aload_n C (pc := 5) 0 rfl dX3_retain_5 ?_
    refine A_g3_0 C (pc := 6) hq0 kf_X3_22 dX3_retain_6 ?_
    refine A_icmp_ge C (pc := 9) 57 (by decide) dX3_retain_9 hf (fun _ hf => ?_) (fun _ hf => ?_)
    · refine A_aload_n C (pc := 57) 0 rfl dX3_retain_57 ?_
      refine A_iload_n C (pc := 58) 2 rfl dX3_retain_58 ?_
      obtain ⟨M59, e59, hf⟩ := bd_i hf
      refine A_p3_0 C (pc := 59) hq0 kf_X3_22 dX3_retain_59 ?_
      refine A_nmM e59 ?_
      exact R_vM C (pc := 62) hr hk dX3_retain_62 hf
    · refine A_iload_n C (pc := 12) 1 rfl dX3_retain_12 ?_
      refine A_iload_n C (pc := 13) 3 rfl dX3_retain_13 ?_
      obtain ⟨z14, h14, hf⟩ := bd_i hf
      refine A_callS1 C (pc := 14) (A := [.int x1, .int x3]) (rest := []) k_X3_26 ky_X6_has ks_X6_has (m_X6_has l B D Y o  h14) rfl rfl (Nat.le_of_ble_eq_true rfl) ⟨rfl, rfl, Nat.le_of_ble_eq_true rfl, Nat.le_of_ble_eq_true rfl⟩ ⟨Nat.zero_le _, Nat.zero_le _⟩ dX3_retain_14 ?_
      refine A_if_eq C (pc := 17) 51 (by decide) dX3_retain_17 hf (fun _ hf => ?_) (fun _ hf => ?_)
      · refine A_iinc C (pc := 51) (k0 := 3) [(0, .ref (B + q0)), (1, .int x1), (2, .int x2), (3, .int (x3 + 1))] rfl ic_1 (by decide) [1, 2, 3, 0] rfl dX3_retain_51 ?_
        refine A_goto C (pc := 54) 4 (by decide) dX3_retain_54 ?_
        exact hk4 _ _ _ hf
      · refine A_aload_n C (pc := 20) 0 rfl dX3_retain_20 ?_
        refine A_g3_1 C (pc := 21) hq0 kf_X3_9 dX3_retain_21 ?_
        refine A_iload_n C (pc := 24) 2 rfl dX3_retain_24 ?_
        refine A_aload_n C (pc := 25) 0 rfl dX3_retain_25 ?_
        refine A_g3_1 C (pc := 26) hq0 kf_X3_9 dX3_retain_26 ?_
        refine A_iload_n C (pc := 29) 3 rfl dX3_retain_29 ?_
        obtain ⟨c30, hf⟩ := chk_i hf
        refine A_iald C (pc := 30) (iO1 hq0) c30 dX3_retain_30 ?_
        refine A_iload_n C (pc := 31) 1 rfl dX3_retain_31 ?_
        obtain ⟨z32, h32, hf⟩ := bd_i hf
        refine A_callS1 C (pc := 32) (A := [.int (M (q0 + 1) x3.toNatClampNeg), .int x1]) (rest := [.int x2, .ref (B + (q0 + 1))]) k_X3_30 ky_X3_squeezed ks_X3_squeezed (m_X3_squeezed l B D Y o  h32) rfl rfl (Nat.le_of_ble_eq_true rfl) ⟨rfl, rfl, Nat.le_of_ble_eq_true rfl, Nat.le_of_ble_eq_true rfl⟩ ⟨Nat.zero_le _, Nat.zero_le _⟩ dX3_retain_32 ?_
        obtain ⟨c35, hf⟩ := chk_i hf
        obtain ⟨M35, e35, hf⟩ := bd_i hf
        refine A_iast C (pc := 35) (iO1 hq0) c35 dX3_retain_35 ?_
        refine A_nmM e35 ?_
        refine A_aload_n C (pc := 36) 0 rfl dX3_retain_36 ?_
        refine A_g3_2 C (pc := 37) hq0 kf_X3_15 dX3_retain_37 ?_
        refine A_iload_n C (pc := 40) 2 rfl dX3_retain_40 ?_
        refine A_aload_n C (pc := 41) 0 rfl dX3_retain_41 ?_
        refine A_g3_2 C (pc := 42) hq0 kf_X3_15 dX3_retain_42 ?_
        refine A_iload_n C (pc := 45) 3 rfl dX3_retain_45 ?_
        obtain ⟨c46, hf⟩ := chk_i hf
        refine A_iald C (pc := 46) (iO2 hq0) c46 dX3_retain_46 ?_
        obtain ⟨c47, hf⟩ := chk_i hf
        obtain ⟨M47, e47, hf⟩ := bd_i hf
        refine A_iast C (pc := 47) (iO2 hq0) c47 dX3_retain_47 ?_
        refine A_nmM e47 ?_
        refine A_iinc C (pc := 48) (k0 := 2) [(0, .ref (B + q0)), (1, .int x1), (2, .int (x2 + 1)), (3, .int x3)] rfl ic_1 (by decide) [1, 2, 0, 3] rfl dX3_retain_48 ?_
        refine A_iinc C (pc := 51) (k0 := 3) [(0, .ref (B + q0)), (1, .int x1), (2, .int (x2 + 1)), (3, .int (x3 + 1))] rfl ic_1 (by decide) [1, 2, 3, 0] rfl dX3_retain_51 ?_
        refine A_goto C (pc := 54) 4 (by decide) dX3_retain_54 ?_
        exact hk4 _ _ _ hf
set_option maxRecDepth 100000 in
theorem m_X3_retain (l : Launch) (B : Nat) (D : va_G) (Y : Nat → ClassId) (o : Ou) {M : Mem} {q0 : Nat} {x1 : Int32} {r : Mem} (hq0 : kd q0 = 2) (hf : f_X3_retain M q0 x1 = some r) : MW l yX3_retain cX3_retain 4 none rm_X3_retain B D Y o [.ref (B + q0), .int x1] M r none := by
  refine ofAt (L0 := [(0, .ref (B + q0)), (1, .int x1)]) (by decide +kernel) (Nat.le_of_ble_eq_true rfl) rfl (fun p e s m args below meth c C hr hk => ?_)
  dsimp only [f_X3_retain] at hf
  refine A_iconst C (pc := 0) ic_0 dX3_retain_0 ?_
  refine A_istore_n C (pc := 1) [(0, .ref (B + q0)), (1, .int x1), (2, .int 0)] rfl (by decide) [1, 2, 0] rfl dX3_retain_1 ?_
  refine A_iconst C (pc := 2) ic_0 dX3_retain_2 ?_
  refine A_istore_n C (pc := 3) [(0, .ref (B + q0)), (1, .int x1), (2, .int 0), (3, .int 0)] rfl (by decide) [1, 2, 3, 0] rfl dX3_retain_3 ?_
  exact w_X3_retain_L4 C hr hk hq0 FU _ _ _  hf
set_option maxRecDepth 100000 in
theorem w_X7_levelOf_L5 {M : Mem} {x1 : Int32} {x2 : Int32} {r : Int32} (C : Cx p s m args c cX7_levelOf 6 RX7 B D Y) (hr : meth.sig.returnType = (some .int)) (hk : meth.locks = false) {nn : Nat} {rec : (Mem × Int32 × Int32) → Option Int32} (hrec : ∀ (M : Mem) (x1 : Int32) (x2 : Int32) (r : Int32) , rec (M, x1, x2) = some r → MW l yX7_levelOf cX7_levelOf 6 (some .int) (rm_X7_levelOf nn) B D Y o [.ref (B + 47), .int x1, .int x2] M M (some (.int r)))  : ∀ (n : Nat) (x3 : Int32) (x4 : Int32), f_X7_levelOf_L5 M x1 x2 rec n (x3, x4) = some r → At p l e (rm_X7_levelOf (nn + 1)) s m args below meth c 6 0 0 (QQ below args s B D Y M o (some (.int r))) B D Y o 5 M [(0, .ref (B + 47)), (1, .int x1), (2, .int x2), (3, .int x3), (4, .int x4)] [] := by
  intro n
  induction n with
  | zero => intro x3 x4 hf; exact nomatch (show (none : Option Int32) = some r from hf)
  | succ n hk5 =>
    intro x3 x4 hf
    replace hf : g_X7_levelOf_L5 M x1 x2 rec (f_X7_levelOf_L5 M x1 x2 rec n) (x3, x4) = some r := hf
    dsimp only [g_X7_levelOf_L5] at hf
    refine A_iload C (pc := 5) 4 rfl dX7_levelOf_5 ?_
    refine A_aload_n C (pc := 7) 0 rfl dX7_levelOf_7 ?_
    refine A_g7_0 C (pc := 8) kf_X7_9 dX7_levelOf_8 ?_
    refine A_iload_n C (pc := 11) 1 rfl dX7_levelOf_11 ?_
    obtain ⟨c12, hf⟩ := chk_i hf
    refine A_iald C (pc := 12) (show IA 48 5 from ⟨rfl, rfl⟩) c12 dX7_levelOf_12 ?_
    refine A_icmp_ge C (pc := 13) 62 (by decide) dX7_levelOf_13 hf (fun _ hf => ?_) (fun _ hf => ?_)
    · refine A_iload_n C (pc := 62) 3 rfl dX7_levelOf_62 ?_
      refine A_iconst C (pc := 63) ic_1 dX7_levelOf_63 ?_
      refine A_iadd C (pc := 64) dX7_levelOf_64 ?_
      exact R_iP C (pc := 65) hr hk rfl dX7_levelOf_65 hf
    · refine A_aload_n C (pc := 16) 0 rfl dX7_levelOf_16 ?_
      refine A_g7_2 C (pc := 17) kf_X7_20 dX7_levelOf_17 ?_
      refine A_iload_n C (pc := 20) 1 rfl dX7_levelOf_20 ?_
      obtain ⟨c21, hf⟩ := chk_i hf
      refine A_aB C (pc := 21) c21 dX7_levelOf_21 ?_
      refine A_iload C (pc := 22) 4 rfl dX7_levelOf_22 ?_
      obtain ⟨c24, hf⟩ := chk_i hf
      refine A_aR C (pc := 24) (kBel (inb_lt c21)) c24 dX7_levelOf_24 ?_
      refine A_iload_n C (pc := 25) 2 rfl dX7_levelOf_25 ?_
      obtain ⟨c26, hf⟩ := chk_i hf
      refine A_zald C (pc := 26) (kRow (kBel (inb_lt c21)) (inb_lt c24)) c26 dX7_levelOf_26 ?_
      refine A_if_eq C (pc := 27) 40 (by decide) dX7_levelOf_27 hf (fun _ hf => ?_) (fun _ hf => ?_)
      · refine A_iconst C (pc := 40) ic_0 dX7_levelOf_40 ?_
        refine A_istore C (pc := 41) [(0, .ref (B + 47)), (1, .int x1), (2, .int x2), (3, .int x3), (4, .int x4), (5, .int 0)] (by decide) [1, 2, 3, 4, 5, 0] rfl dX7_levelOf_41 ?_
        refine A_iload C (pc := 43) 5 rfl dX7_levelOf_43 ?_
        refine A_iload_n C (pc := 45) 3 rfl dX7_levelOf_45 ?_
        refine A_icmp_le C (pc := 46) 54 (by decide) dX7_levelOf_46 hf (fun _ hf => ?_) (fun _ hf => ?_)
        · refine A_iload_n C (pc := 54) 3 rfl dX7_levelOf_54 ?_
          refine A_istore_n C (pc := 55) [(0, .ref (B + 47)), (1, .int x1), (2, .int x2), (3, .int x3), (4, .int x4)] rfl (by decide) [1, 2, 3, 0, 4] rfl dX7_levelOf_55 ?_
          refine A_iinc C (pc := 56) (k0 := 4) [(0, .ref (B + 47)), (1, .int x1), (2, .int x2), (3, .int x3), (4, .int (x4 + 1))] rfl ic_1 (by decide) [1, 2, 3, 4, 0] rfl dX7_levelOf_56 ?_
          refine A_goto C (pc := 59) 5 (by decide) dX7_levelOf_59 ?_
          exact hk5 _ _ hf
        · refine A_iload C (pc := 49) 5 rfl dX7_levelOf_49 ?_
          refine A_goto C (pc := 51) 55 (by decide) dX7_levelOf_51 ?_
          refine A_istore_n C (pc := 55) [(0, .ref (B + 47)), (1, .int x1), (2, .int x2), (3, .int 0), (4, .int x4)] rfl (by decide) [1, 2, 3, 0, 4] rfl dX7_levelOf_55 ?_
          refine A_iinc C (pc := 56) (k0 := 4) [(0, .ref (B + 47)), (1, .int x1), (2, .int x2), (3, .int 0), (4, .int (x4 + 1))] rfl ic_1 (by decide) [1, 2, 3, 4, 0] rfl dX7_levelOf_56 ?_
          refine A_goto C (pc := 59) 5 (by decide) dX7_levelOf_59 ?_
          exact hk5 _ _ hf
      · refine A_aload_n C (pc := 30) 0 rfl dX7_levelOf_30 ?_
        refine A_iload_n C (pc := 31) 1 rfl dX7_levelOf_31 ?_
        refine A_iload C (pc := 32) 4 rfl dX7_levelOf_32 ?_
        obtain ⟨z34, h34, hf⟩ := bd_i hf
        refine A_callV1 C (pc := 34) (A := [.int x1, .int x4]) (rest := []) k_X7_105 ky_X7_levelOf kv_X7_levelOf (hrec _ _ _ _  h34) (by decide) rfl rfl rfl rfl (Nat.le_of_ble_eq_true rfl) ⟨rfl, rfl, (by simp only [rm_X7_levelOf]; omega), (by simp only [rm_X7_levelOf]; omega)⟩ ⟨Nat.zero_le _, Nat.zero_le _⟩ dX7_levelOf_34 ?_
        refine A_goto C (pc := 37) 41 (by decide) dX7_levelOf_37 ?_
        refine A_istore C (pc := 41) [(0, .ref (B + 47)), (1, .int x1), (2, .int x2), (3, .int x3), (4, .int x4), (5, .int z34)] (by decide) [1, 2, 3, 4, 5, 0] rfl dX7_levelOf_41 ?_
        refine A_iload C (pc := 43) 5 rfl dX7_levelOf_43 ?_
        refine A_iload_n C (pc := 45) 3 rfl dX7_levelOf_45 ?_
        refine A_icmp_le C (pc := 46) 54 (by decide) dX7_levelOf_46 hf (fun _ hf => ?_) (fun _ hf => ?_)
        · refine A_iload_n C (pc := 54) 3 rfl dX7_levelOf_54 ?_
          refine A_istore_n C (pc := 55) [(0, .ref (B + 47)), (1, .int x1), (2, .int x2), (3, .int x3), (4, .int x4)] rfl (by decide) [1, 2, 3, 0, 4] rfl dX7_levelOf_55 ?_
          refine A_iinc C (pc := 56) (k0 := 4) [(0, .ref (B + 47)), (1, .int x1), (2, .int x2), (3, .int x3), (4, .int (x4 + 1))] rfl ic_1 (by decide) [1, 2, 3, 4, 0] rfl dX7_levelOf_56 ?_
          refine A_goto C (pc := 59) 5 (by decide) dX7_levelOf_59 ?_
          exact hk5 _ _ hf
        · refine A_iload C (pc := 49) 5 rfl dX7_levelOf_49 ?_
          refine A_goto C (pc := 51) 55 (by decide) dX7_levelOf_51 ?_
          refine A_istore_n C (pc := 55) [(0, .ref (B + 47)), (1, .int x1), (2, .int x2), (3, .int z34), (4, .int x4)] rfl (by decide) [1, 2, 3, 0, 4] rfl dX7_levelOf_55 ?_
          refine A_iinc C (pc := 56) (k0 := 4) [(0, .ref (B + 47)), (1, .int x1), (2, .int x2), (3, .int z34), (4, .int (x4 + 1))] rfl ic_1 (by decide) [1, 2, 3, 4, 0] rfl dX7_levelOf_56 ?_
          refine A_goto C (pc := 59) 5 (by decide) dX7_levelOf_59 ?_
          exact hk5 _ _ hf
set_option maxRecDepth 100000 in
theorem m_X7_levelOf (l : Launch) (B : Nat) (D : va_G) (Y : Nat → ClassId) (o : Ou)  : ∀ (n : Nat) (M : Mem) (x1 : Int32) (x2 : Int32) (r : Int32) , f_X7_levelOf n (M, x1, x2) = some r → MW l yX7_levelOf cX7_levelOf 6 (some .int) (rm_X7_levelOf n) B D Y o [.ref (B + 47), .int x1, .int x2] M M (some (.int r)) := by
  intro nn
  induction nn with
  | zero => intro M x1 x2 r  hf; exact nomatch (show (none : Option Int32) = some r from hf)
  | succ nn hrec =>
    intro M x1 x2 r  hf
    replace hf : b_X7_levelOf (f_X7_levelOf nn) (M, x1, x2) = some r := hf
    dsimp only [b_X7_levelOf] at hf
    refine ofAt (L0 := [(0, .ref (B + 47)), (1, .int x1), (2, .int x2)]) (by decide +kernel) (Nat.le_of_ble_eq_true rfl) rfl (fun p e s m args below meth c C hr hk => ?_)
    refine A_iconst C (pc := 0) ic_0 dX7_levelOf_0 ?_
    refine A_istore_n C (pc := 1) [(0, .ref (B + 47)), (1, .int x1), (2, .int x2), (3, .int 0)] rfl (by decide) [1, 2, 3, 0] rfl dX7_levelOf_1 ?_
    refine A_iconst C (pc := 2) ic_0 dX7_levelOf_2 ?_
    refine A_istore C (pc := 3) [(0, .ref (B + 47)), (1, .int x1), (2, .int x2), (3, .int 0), (4, .int 0)] (by decide) [1, 2, 3, 4, 0] rfl dX7_levelOf_3 ?_
    exact w_X7_levelOf_L5 C hr hk hrec FU _ _  hf
set_option maxRecDepth 100000 in
theorem m_X3_isBelow (l : Launch) (B : Nat) (D : va_G) (Y : Nat → ClassId) (o : Ou) {M : Mem} {q0 : Nat} {x1 : Int32} {x2 : Int32} {r : Int32} (hq0 : kd q0 = 2) (hf : f_X3_isBelow M q0 x1 x2 = some r) : MW l yX3_isBelow cX3_isBelow 3 (some .boolean) rm_X3_isBelow B D Y o [.ref (B + q0), .int x1, .int x2] M M (some (.int r)) := by
  refine ofAt (L0 := [(0, .ref (B + q0)), (1, .int x1), (2, .int x2)]) (by decide +kernel) (Nat.le_of_ble_eq_true rfl) rfl (fun p e s m args below meth c C hr hk => ?_)
  dsimp only [f_X3_isBelow] at hf
  refine A_aload_n C (pc := 0) 0 rfl dX3_isBelow_0 ?_
  refine A_g3_1 C (pc := 1) hq0 kf_X3_9 dX3_isBelow_1 ?_
  refine A_iload_n C (pc := 4) 2 rfl dX3_isBelow_4 ?_
  obtain ⟨c5, hf⟩ := chk_i hf
  refine A_iald C (pc := 5) (iO1 hq0) c5 dX3_isBelow_5 ?_
  refine A_iload_n C (pc := 6) 1 rfl dX3_isBelow_6 ?_
  obtain ⟨z7, h7, hf⟩ := bd_i hf
  refine A_callS1 C (pc := 7) (A := [.int (M (q0 + 1) x2.toNatClampNeg), .int x1]) (rest := []) k_X3_26 ky_X6_has ks_X6_has (m_X6_has l B D Y o  h7) rfl rfl (Nat.le_of_ble_eq_true rfl) ⟨rfl, rfl, Nat.le_of_ble_eq_true rfl, Nat.le_of_ble_eq_true rfl⟩ ⟨Nat.zero_le _, Nat.zero_le _⟩ dX3_isBelow_7 ?_
  obtain ⟨c10, hf⟩ := chk_i hf
  exact R_iP C (pc := 10) hr hk (isb_nz c10) dX3_isBelow_10 hf
set_option maxRecDepth 100000 in
theorem w_X3_pairCount_L4 {M : Mem} {q0 : Nat} {r : Int32} (C : Cx p s m args c cX3_pairCount 3 RX3 B D Y) (hr : meth.sig.returnType = (some .int)) (hk : meth.locks = false) (hq0 : kd q0 = 2) : ∀ (n : Nat) (x1 : Int32) (x2 : Int32), f_X3_pairCount_L4 M q0 n (x1, x2) = some r → At p l e rm_X3_pairCount s m args below meth c 3 0 0 (QQ below args s B D Y M o (some (.int r))) B D Y o 4 M [(0, .ref (B + q0)), (1, .int x1), (2, .int x2)] [] := by
  intro n
  induction n with
  | zero => intro x1 x2 hf; exact nomatch (show (none : Option Int32) = some r from hf)
  | succ n hk4 =>
    intro x1 x2 hf
    replace hf : g_X3_pairCount_L4 M q0 (f_X3_pairCount_L4 M q0 n) (x1, x2) = some r := hf
    dsimp only [g_X3_pairCount_L4] at hf
    refine A_iload_n C (pc := 4) 2 rfl dX3_pairCount_4 ?_
    refine A_aload_n C (pc := 5) 0 rfl dX3_pairCount_5 ?_
    refine A_g3_0 C (pc := 6) hq0 kf_X3_22 dX3_pairCount_6 ?_
    refine A_icmp_ge C (pc := 9) 30 (by decide) dX3_pairCount_9 hf (fun _ hf => ?_) (fun _ hf => ?_)
    · refine A_iload_n C (pc := 30) 1 rfl dX3_pairCount_30 ?_
      exact R_iP C (pc := 31) hr hk rfl dX3_pairCount_31 hf
    · refine A_iload_n C (pc := 12) 1 rfl dX3_pairCount_12 ?_
      refine A_aload_n C (pc := 13) 0 rfl dX3_pairCount_13 ?_
      refine A_g3_1 C (pc := 14) hq0 kf_X3_9 dX3_pairCount_14 ?_
      refine A_iload_n C (pc := 17) 2 rfl dX3_pairCount_17 ?_
      obtain ⟨c18, hf⟩ := chk_i hf
      refine A_iald C (pc := 18) (iO1 hq0) c18 dX3_pairCount_18 ?_
      obtain ⟨z19, h19, hf⟩ := bd_i hf
      refine A_callS1 C (pc := 19) (A := [.int (M (q0 + 1) x2.toNatClampNeg)]) (rest := [.int x1]) k_X3_60 ky_J6_bitCount_0f7a4 ks_J6_bitCount_0f7a4 (m_J6_bitCount_0f7a4 l B D Y o  h19) rfl rfl (Nat.le_of_ble_eq_true rfl) ⟨rfl, rfl, Nat.le_of_ble_eq_true rfl, Nat.le_of_ble_eq_true rfl⟩ ⟨Nat.zero_le _, Nat.zero_le _⟩ dX3_pairCount_19 ?_
      refine A_iadd C (pc := 22) dX3_pairCount_22 ?_
      obtain ⟨v23, e23, hf⟩ := bd_i hf
      refine A_nmI e23 ?_
      refine A_istore_n C (pc := 23) [(0, .ref (B + q0)), (1, .int v23), (2, .int x2)] rfl (by decide) [1, 0, 2] rfl dX3_pairCount_23 ?_
      refine A_iinc C (pc := 24) (k0 := 2) [(0, .ref (B + q0)), (1, .int v23), (2, .int (x2 + 1))] rfl ic_1 (by decide) [1, 2, 0] rfl dX3_pairCount_24 ?_
      refine A_goto C (pc := 27) 4 (by decide) dX3_pairCount_27 ?_
      exact hk4 _ _ hf
set_option maxRecDepth 100000 in
theorem m_X3_pairCount (l : Launch) (B : Nat) (D : va_G) (Y : Nat → ClassId) (o : Ou) {M : Mem} {q0 : Nat} {r : Int32} (hq0 : kd q0 = 2) (hf : f_X3_pairCount M q0 = some r) : MW l yX3_pairCount cX3_pairCount 3 (some .int) rm_X3_pairCount B D Y o [.ref (B + q0)] M M (some (.int r)) := by
  refine ofAt (L0 := [(0, .ref (B + q0))]) (by decide +kernel) (Nat.le_of_ble_eq_true rfl) rfl (fun p e s m args below meth c C hr hk => ?_)
  dsimp only [f_X3_pairCount] at hf
  refine A_iconst C (pc := 0) ic_0 dX3_pairCount_0 ?_
  refine A_istore_n C (pc := 1) [(0, .ref (B + q0)), (1, .int 0)] rfl (by decide) [1, 0] rfl dX3_pairCount_1 ?_
  refine A_iconst C (pc := 2) ic_0 dX3_pairCount_2 ?_
  refine A_istore_n C (pc := 3) [(0, .ref (B + q0)), (1, .int 0), (2, .int 0)] rfl (by decide) [1, 2, 0] rfl dX3_pairCount_3 ?_
  exact w_X3_pairCount_L4 C hr hk hq0 FU _ _  hf
set_option maxRecDepth 100000 in
theorem w_X3_link_L37 {q0 : Nat} {x2 : Int32} {x3 : Int32} {x4 : Int32} {r : Int32 × Mem} (C : Cx p s m args c cX3_link 6 RX3 B D Y) (hr : meth.sig.returnType = (some .int)) (hk : meth.locks = false) (hq0 : kd q0 = 2) : ∀ (n : Nat) (x5 : Int32) (M : Mem), f_X3_link_L37 q0 x2 x3 x4 n (x5, M) = some r → At p l e rm_X3_link s m args below meth c 6 0 0 (QQ below args s B D Y r.2 o (some (.int r.1))) B D Y o 37 M [(0, .ref (B + q0)), (2, .int x2), (3, .int x3), (4, .int x4), (5, .int x5)] [] := by
  intro n
  induction n with
  | zero => intro x5 M hf; exact nomatch (show (none : Option (Int32 × Mem)) = some r from hf)
  | succ n hk37 =>
    intro x5 M hf
    replace hf : g_X3_link_L37 q0 x2 x3 x4 (f_X3_link_L37 q0 x2 x3 x4 n) (x5, M) = some r := hf
    dsimp only [g_X3_link_L37] at hf
    refine A_iload C (pc := 37) 4 rfl dX3_link_37 ?_
    refine A_aload_n C (pc := 39) 0 rfl dX3_link_39 ?_
    refine A_g3_0 C (pc := 40) hq0 kf_X3_22 dX3_link_40 ?_
    refine A_icmp_ge C (pc := 43) 80 (by decide) dX3_link_43 hf (fun _ hf => ?_) (fun _ hf => ?_)
    · refine A_aload_n C (pc := 80) 0 rfl dX3_link_80 ?_
      obtain ⟨z81, h81, hf⟩ := bd_i hf
      refine A_callV1 C (pc := 81) (A := []) (rest := []) k_X3_37 ky_X3_pairCount kv_X3_pairCount (m_X3_pairCount l B D Y o hq0 h81) (kO hq0).1 (ent2 hq0) rfl rfl rfl (Nat.le_of_ble_eq_true rfl) ⟨rfl, rfl, Nat.le_of_ble_eq_true rfl, Nat.le_of_ble_eq_true rfl⟩ ⟨Nat.zero_le _, Nat.zero_le _⟩ dX3_link_81 ?_
      refine A_iload_n C (pc := 84) 2 rfl dX3_link_84 ?_
      refine A_isub C (pc := 85) dX3_link_85 ?_
      exact R_iM C (pc := 86) hr hk rfl dX3_link_86 hf
    · refine A_iload C (pc := 46) 4 rfl dX3_link_46 ?_
      refine A_iload_n C (pc := 48) 1 rfl dX3_link_48 ?_
      refine A_icmp_eq C (pc := 49) 62 (by decide) dX3_link_49 hf (fun _ hf => ?_) (fun _ hf => ?_)
      · refine A_aload_n C (pc := 62) 0 rfl dX3_link_62 ?_
        refine A_g3_1 C (pc := 63) hq0 kf_X3_9 dX3_link_63 ?_
        refine A_iload C (pc := 66) 4 rfl dX3_link_66 ?_
        refine A_dup2 C (pc := 68) rfl rfl dX3_link_68 ?_
        obtain ⟨c69, hf⟩ := chk_i hf
        refine A_iald C (pc := 69) (iO1 hq0) c69 dX3_link_69 ?_
        refine A_iload C (pc := 70) 3 rfl dX3_link_70 ?_
        refine A_ior C (pc := 72) dX3_link_72 ?_
        obtain ⟨c73, hf⟩ := chk_i hf
        obtain ⟨M73, e73, hf⟩ := bd_i hf
        refine A_iast C (pc := 73) (iO1 hq0) c73 dX3_link_73 ?_
        refine A_nmM e73 ?_
        refine A_iinc C (pc := 74) (k0 := 4) [(0, .ref (B + q0)), (2, .int x2), (3, .int x3), (4, .int x4), (5, .int (x5 + 1))] rfl ic_1 (by decide) [1, 2, 3, 4, 0] rfl dX3_link_74 ?_
        refine A_goto C (pc := 77) 37 (by decide) dX3_link_77 ?_
        exact hk37 _ _ hf
      · refine A_aload_n C (pc := 52) 0 rfl dX3_link_52 ?_
        refine A_iload_n C (pc := 53) 1 rfl dX3_link_53 ?_
        refine A_iload C (pc := 54) 4 rfl dX3_link_54 ?_
        obtain ⟨z56, h56, hf⟩ := bd_i hf
        refine A_callV1 C (pc := 56) (A := [.int x2, .int x5]) (rest := []) k_X3_34 ky_X3_isBelow kv_X3_isBelow (m_X3_isBelow l B D Y o hq0 h56) (kO hq0).1 (ent2 hq0) rfl rfl rfl (Nat.le_of_ble_eq_true rfl) ⟨rfl, rfl, Nat.le_of_ble_eq_true rfl, Nat.le_of_ble_eq_true rfl⟩ ⟨Nat.zero_le _, Nat.zero_le _⟩ dX3_link_56 ?_
        refine A_if_eq C (pc := 59) 74 (by decide) dX3_link_59 hf (fun _ hf => ?_) (fun _ hf => ?_)
        · refine A_iinc C (pc := 74) (k0 := 4) [(0, .ref (B + q0)), (2, .int x2), (3, .int x3), (4, .int x4), (5, .int (x5 + 1))] rfl ic_1 (by decide) [1, 2, 3, 4, 0] rfl dX3_link_74 ?_
          refine A_goto C (pc := 77) 37 (by decide) dX3_link_77 ?_
          exact hk37 _ _ hf
        · refine A_aload_n C (pc := 62) 0 rfl dX3_link_62 ?_
          refine A_g3_1 C (pc := 63) hq0 kf_X3_9 dX3_link_63 ?_
          refine A_iload C (pc := 66) 4 rfl dX3_link_66 ?_
          refine A_dup2 C (pc := 68) rfl rfl dX3_link_68 ?_
          obtain ⟨c69, hf⟩ := chk_i hf
          refine A_iald C (pc := 69) (iO1 hq0) c69 dX3_link_69 ?_
          refine A_iload C (pc := 70) 3 rfl dX3_link_70 ?_
          refine A_ior C (pc := 72) dX3_link_72 ?_
          obtain ⟨c73, hf⟩ := chk_i hf
          obtain ⟨M73, e73, hf⟩ := bd_i hf
          refine A_iast C (pc := 73) (iO1 hq0) c73 dX3_link_73 ?_
          refine A_nmM e73 ?_
          refine A_iinc C (pc := 74) (k0 := 4) [(0, .ref (B + q0)), (2, .int x2), (3, .int x3), (4, .int x4), (5, .int (x5 + 1))] rfl ic_1 (by decide) [1, 2, 3, 4, 0] rfl dX3_link_74 ?_
          refine A_goto C (pc := 77) 37 (by decide) dX3_link_77 ?_
          exact hk37 _ _ hf
set_option maxRecDepth 100000 in
theorem m_X3_link (l : Launch) (B : Nat) (D : va_G) (Y : Nat → ClassId) (o : Ou) {M : Mem} {q0 : Nat} {x1 : Int32} {x2 : Int32} {r : Int32 × Mem} (hq0 : kd q0 = 2) (hf : f_X3_link M q0 x1 x2 = some r) : MW l yX3_link cX3_link 6 (some .int) rm_X3_link B D Y o [.ref (B + q0), .int x1, .int x2] M r.2 (some (.int r.1)) := by
  refine ofAt (L0 := [(0, .ref (B + q0)), (1, .int x1), (2, .int x2)]) (by decide +kernel) (Nat.le_of_ble_eq_true rfl) rfl (fun p e s m args below meth c C hr hk => ?_)
  dsimp only [f_X3_link] at hf
  refine A_iload_n C (pc := 0) 1 rfl dX3_link_0 ?_
  refine A_iload_n C (pc := 1) 2 rfl dX3_link_1 ?_
  refine A_icmp_eq C (pc := 2) 14 (by decide) dX3_link_2 hf (fun _ hf => ?_) (fun _ hf => ?_)
  · refine A_bipush C (pc := 14) bc_m9 dX3_link_14 ?_
    exact R_iM C (pc := 16) hr hk rfl dX3_link_16 hf
  · refine A_aload_n C (pc := 5) 0 rfl dX3_link_5 ?_
    refine A_iload_n C (pc := 6) 2 rfl dX3_link_6 ?_
    refine A_iload_n C (pc := 7) 1 rfl dX3_link_7 ?_
    obtain ⟨z8, h8, hf⟩ := bd_i hf
    refine A_callV1 C (pc := 8) (A := [.int x2, .int x1]) (rest := []) k_X3_34 ky_X3_isBelow kv_X3_isBelow (m_X3_isBelow l B D Y o hq0 h8) (kO hq0).1 (ent2 hq0) rfl rfl rfl (Nat.le_of_ble_eq_true rfl) ⟨rfl, rfl, Nat.le_of_ble_eq_true rfl, Nat.le_of_ble_eq_true rfl⟩ ⟨Nat.zero_le _, Nat.zero_le _⟩ dX3_link_8 ?_
    refine A_if_eq C (pc := 11) 17 (by decide) dX3_link_11 hf (fun _ hf => ?_) (fun _ hf => ?_)
    · refine A_aload_n C (pc := 17) 0 rfl dX3_link_17 ?_
      obtain ⟨z18, h18, hf⟩ := bd_i hf
      refine A_callV1 C (pc := 18) (A := []) (rest := []) k_X3_37 ky_X3_pairCount kv_X3_pairCount (m_X3_pairCount l B D Y o hq0 h18) (kO hq0).1 (ent2 hq0) rfl rfl rfl (Nat.le_of_ble_eq_true rfl) ⟨rfl, rfl, Nat.le_of_ble_eq_true rfl, Nat.le_of_ble_eq_true rfl⟩ ⟨Nat.zero_le _, Nat.zero_le _⟩ dX3_link_18 ?_
      refine A_istore_n C (pc := 21) [(0, .ref (B + q0)), (1, .int x1), (2, .int x2), (3, .int z18)] rfl (by decide) [1, 2, 3, 0] rfl dX3_link_21 ?_
      refine A_aload_n C (pc := 22) 0 rfl dX3_link_22 ?_
      refine A_g3_1 C (pc := 23) hq0 kf_X3_9 dX3_link_23 ?_
      refine A_iload_n C (pc := 26) 1 rfl dX3_link_26 ?_
      obtain ⟨c27, hf⟩ := chk_i hf
      refine A_iald C (pc := 27) (iO1 hq0) c27 dX3_link_27 ?_
      refine A_iconst C (pc := 28) ic_1 dX3_link_28 ?_
      refine A_iload_n C (pc := 29) 1 rfl dX3_link_29 ?_
      refine A_ishl C (pc := 30) dX3_link_30 ?_
      refine A_ior C (pc := 31) dX3_link_31 ?_
      obtain ⟨v32, e32, hf⟩ := bd_i hf
      refine A_nmI e32 ?_
      refine A_istore C (pc := 32) [(0, .ref (B + q0)), (2, .int x2), (3, .int z18), (4, .int v32)] (by decide) [1, 3, 4, 0] rfl dX3_link_32 ?_
      refine A_iconst C (pc := 34) ic_0 dX3_link_34 ?_
      refine A_istore C (pc := 35) [(0, .ref (B + q0)), (2, .int x2), (3, .int z18), (4, .int v32), (5, .int 0)] (by decide) [1, 2, 3, 4, 0] rfl dX3_link_35 ?_
      exact w_X3_link_L37 C hr hk hq0 FU _ _  hf
    · refine A_bipush C (pc := 14) bc_m9 dX3_link_14 ?_
      exact R_iM C (pc := 16) hr hk rfl dX3_link_16 hf
end W1
