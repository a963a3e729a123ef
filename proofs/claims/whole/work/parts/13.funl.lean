theorem dL_above_0 : decode cL_above 0 = .ok (.aload 4, 2) := by decide +kernel
theorem dL_above_2 : decode cL_above 2 = .ok (.iconst 0, 1) := by decide +kernel
theorem dL_above_3 : decode cL_above 3 = .ok (.aload_n 0, 1) := by decide +kernel
theorem dL_above_4 : decode cL_above 4 = .ok (.iload_n 1, 1) := by decide +kernel
theorem dL_above_5 : decode cL_above 5 = .ok (.iload_n 2, 1) := by decide +kernel
theorem dL_above_6 : decode cL_above 6 = .ok (.iload_n 3, 1) := by decide +kernel
theorem dL_above_7 : decode cL_above 7 = .ok (.invokevirtual 54, 3) := by decide +kernel
theorem dL_above_10 : decode cL_above 10 = .ok (.i2l, 1) := by decide +kernel
theorem dL_above_11 : decode cL_above 11 = .ok (.lastore, 1) := by decide +kernel
theorem dL_above_12 : decode cL_above 12 = .ok (.goto 11, 3) := by decide +kernel
theorem dL_above_15 : decode cL_above 15 = .ok (.astore 5, 2) := by decide +kernel
theorem dL_above_17 : decode cL_above 17 = .ok (.iconst 1, 1) := by decide +kernel
theorem dL_above_18 : decode cL_above 18 = .ok (.ireturn, 1) := by decide +kernel
theorem dL_above_19 : decode cL_above 19 = .ok (.astore 5, 2) := by decide +kernel
theorem dL_above_21 : decode cL_above 21 = .ok (.iconst 2, 1) := by decide +kernel
theorem dL_above_22 : decode cL_above 22 = .ok (.ireturn, 1) := by decide +kernel
theorem dL_above_23 : decode cL_above 23 = .ok (.iconst 0, 1) := by decide +kernel
theorem dL_above_24 : decode cL_above 24 = .ok (.ireturn, 1) := by decide +kernel
theorem dL_add_0 : decode cL_add 0 = .ok (.aload_n 3, 1) := by decide +kernel
theorem dL_add_1 : decode cL_add 1 = .ok (.iconst 0, 1) := by decide +kernel
theorem dL_add_2 : decode cL_add 2 = .ok (.aload_n 0, 1) := by decide +kernel
theorem dL_add_3 : decode cL_add 3 = .ok (.iload_n 1, 1) := by decide +kernel
theorem dL_add_4 : decode cL_add 4 = .ok (.iload_n 2, 1) := by decide +kernel
theorem dL_add_5 : decode cL_add 5 = .ok (.invokevirtual 20, 3) := by decide +kernel
theorem dL_add_8 : decode cL_add 8 = .ok (.i2l, 1) := by decide +kernel
theorem dL_add_9 : decode cL_add 9 = .ok (.lastore, 1) := by decide +kernel
theorem dL_add_10 : decode cL_add 10 = .ok (.goto 15, 3) := by decide +kernel
theorem dL_add_13 : decode cL_add 13 = .ok (.astore 4, 2) := by decide +kernel
theorem dL_add_15 : decode cL_add 15 = .ok (.iconst 1, 1) := by decide +kernel
theorem dL_add_16 : decode cL_add 16 = .ok (.ireturn, 1) := by decide +kernel
theorem dL_add_17 : decode cL_add 17 = .ok (.astore 4, 2) := by decide +kernel
theorem dL_add_19 : decode cL_add 19 = .ok (.iconst 2, 1) := by decide +kernel
theorem dL_add_20 : decode cL_add 20 = .ok (.ireturn, 1) := by decide +kernel
theorem dL_add_21 : decode cL_add 21 = .ok (.astore 4, 2) := by decide +kernel
theorem dL_add_23 : decode cL_add 23 = .ok (.iconst 3, 1) := by decide +kernel
theorem dL_add_24 : decode cL_add 24 = .ok (.ireturn, 1) := by decide +kernel
theorem dL_add_25 : decode cL_add 25 = .ok (.iconst 0, 1) := by decide +kernel
theorem dL_add_26 : decode cL_add 26 = .ok (.ireturn, 1) := by decide +kernel
theorem dL_aparts_0 : decode cL_aparts 0 = .ok (.aload_n 2, 1) := by decide +kernel
theorem dL_aparts_1 : decode cL_aparts 1 = .ok (.iconst 0, 1) := by decide +kernel
theorem dL_aparts_2 : decode cL_aparts 2 = .ok (.aload_n 0, 1) := by decide +kernel
theorem dL_aparts_3 : decode cL_aparts 3 = .ok (.iload_n 1, 1) := by decide +kernel
theorem dL_aparts_4 : decode cL_aparts 4 = .ok (.invokevirtual 115, 3) := by decide +kernel
theorem dL_aparts_7 : decode cL_aparts 7 = .ok (.i2l, 1) := by decide +kernel
theorem dL_aparts_8 : decode cL_aparts 8 = .ok (.lastore, 1) := by decide +kernel
theorem dL_aparts_9 : decode cL_aparts 9 = .ok (.goto 6, 3) := by decide +kernel
theorem dL_aparts_12 : decode cL_aparts 12 = .ok (.astore_n 3, 1) := by decide +kernel
theorem dL_aparts_13 : decode cL_aparts 13 = .ok (.iconst 1, 1) := by decide +kernel
theorem dL_aparts_14 : decode cL_aparts 14 = .ok (.ireturn, 1) := by decide +kernel
theorem dL_aparts_15 : decode cL_aparts 15 = .ok (.iconst 0, 1) := by decide +kernel
theorem dL_aparts_16 : decode cL_aparts 16 = .ok (.ireturn, 1) := by decide +kernel
theorem dL_areSound_0 : decode cL_areSound 0 = .ok (.aload_n 3, 1) := by decide +kernel
theorem dL_areSound_1 : decode cL_areSound 1 = .ok (.iconst 0, 1) := by decide +kernel
theorem dL_areSound_2 : decode cL_areSound 2 = .ok (.aload_n 0, 1) := by decide +kernel
theorem dL_areSound_3 : decode cL_areSound 3 = .ok (.iload_n 1, 1) := by decide +kernel
theorem dL_areSound_4 : decode cL_areSound 4 = .ok (.iload_n 2, 1) := by decide +kernel
theorem dL_areSound_5 : decode cL_areSound 5 = .ok (.invokevirtual 185, 3) := by decide +kernel
theorem dL_areSound_8 : decode cL_areSound 8 = .ok (.ifCond .eq 7, 3) := by decide +kernel
theorem dL_areSound_11 : decode cL_areSound 11 = .ok (.lconst 1, 1) := by decide +kernel
theorem dL_areSound_12 : decode cL_areSound 12 = .ok (.goto 4, 3) := by decide +kernel
theorem dL_areSound_15 : decode cL_areSound 15 = .ok (.lconst 0, 1) := by decide +kernel
theorem dL_areSound_16 : decode cL_areSound 16 = .ok (.lastore, 1) := by decide +kernel
theorem dL_areSound_17 : decode cL_areSound 17 = .ok (.goto 7, 3) := by decide +kernel
theorem dL_areSound_20 : decode cL_areSound 20 = .ok (.astore 4, 2) := by decide +kernel
theorem dL_areSound_22 : decode cL_areSound 22 = .ok (.iconst 1, 1) := by decide +kernel
theorem dL_areSound_23 : decode cL_areSound 23 = .ok (.ireturn, 1) := by decide +kernel
theorem dL_areSound_24 : decode cL_areSound 24 = .ok (.iconst 0, 1) := by decide +kernel
theorem dL_areSound_25 : decode cL_areSound 25 = .ok (.ireturn, 1) := by decide +kernel
theorem dL_beside_0 : decode cL_beside 0 = .ok (.aload 4, 2) := by decide +kernel
theorem dL_beside_2 : decode cL_beside 2 = .ok (.iconst 0, 1) := by decide +kernel
theorem dL_beside_3 : decode cL_beside 3 = .ok (.aload_n 0, 1) := by decide +kernel
theorem dL_beside_4 : decode cL_beside 4 = .ok (.iload_n 1, 1) := by decide +kernel
theorem dL_beside_5 : decode cL_beside 5 = .ok (.iload_n 2, 1) := by decide +kernel
theorem dL_beside_6 : decode cL_beside 6 = .ok (.iload_n 3, 1) := by decide +kernel
theorem dL_beside_7 : decode cL_beside 7 = .ok (.invokevirtual 51, 3) := by decide +kernel
theorem dL_beside_10 : decode cL_beside 10 = .ok (.i2l, 1) := by decide +kernel
theorem dL_beside_11 : decode cL_beside 11 = .ok (.lastore, 1) := by decide +kernel
theorem dL_beside_12 : decode cL_beside 12 = .ok (.goto 11, 3) := by decide +kernel
theorem dL_beside_15 : decode cL_beside 15 = .ok (.astore 5, 2) := by decide +kernel
theorem dL_beside_17 : decode cL_beside 17 = .ok (.iconst 1, 1) := by decide +kernel
theorem dL_beside_18 : decode cL_beside 18 = .ok (.ireturn, 1) := by decide +kernel
theorem dL_beside_19 : decode cL_beside 19 = .ok (.astore 5, 2) := by decide +kernel
theorem dL_beside_21 : decode cL_beside 21 = .ok (.iconst 2, 1) := by decide +kernel
theorem dL_beside_22 : decode cL_beside 22 = .ok (.ireturn, 1) := by decide +kernel
theorem dL_beside_23 : decode cL_beside 23 = .ok (.iconst 0, 1) := by decide +kernel
theorem dL_beside_24 : decode cL_beside 24 = .ok (.ireturn, 1) := by decide +kernel
theorem dL_chain_0 : decode cL_chain 0 = .ok (.aload_n 3, 1) := by decide +kernel
theorem dL_chain_1 : decode cL_chain 1 = .ok (.iconst 0, 1) := by decide +kernel
theorem dL_chain_2 : decode cL_chain 2 = .ok (.aload_n 0, 1) := by decide +kernel
theorem dL_chain_3 : decode cL_chain 3 = .ok (.iload_n 1, 1) := by decide +kernel
theorem dL_chain_4 : decode cL_chain 4 = .ok (.iload_n 2, 1) := by decide +kernel
theorem dL_chain_5 : decode cL_chain 5 = .ok (.invokevirtual 17, 3) := by decide +kernel
theorem dL_chain_8 : decode cL_chain 8 = .ok (.i2l, 1) := by decide +kernel
theorem dL_chain_9 : decode cL_chain 9 = .ok (.lastore, 1) := by decide +kernel
theorem dL_chain_10 : decode cL_chain 10 = .ok (.goto 11, 3) := by decide +kernel
theorem dL_chain_13 : decode cL_chain 13 = .ok (.astore 4, 2) := by decide +kernel
theorem dL_chain_15 : decode cL_chain 15 = .ok (.iconst 1, 1) := by decide +kernel
theorem dL_chain_16 : decode cL_chain 16 = .ok (.ireturn, 1) := by decide +kernel
theorem dL_chain_17 : decode cL_chain 17 = .ok (.astore 4, 2) := by decide +kernel
theorem dL_chain_19 : decode cL_chain 19 = .ok (.iconst 2, 1) := by decide +kernel
theorem dL_chain_20 : decode cL_chain 20 = .ok (.ireturn, 1) := by decide +kernel
theorem dL_chain_21 : decode cL_chain 21 = .ok (.iconst 0, 1) := by decide +kernel
theorem dL_chain_22 : decode cL_chain 22 = .ok (.ireturn, 1) := by decide +kernel
theorem dL_closed_0 : decode cL_closed 0 = .ok (.aload_n 3, 1) := by decide +kernel
theorem dL_closed_1 : decode cL_closed 1 = .ok (.iconst 0, 1) := by decide +kernel
theorem dL_closed_2 : decode cL_closed 2 = .ok (.aload_n 0, 1) := by decide +kernel
theorem dL_closed_3 : decode cL_closed 3 = .ok (.iload_n 1, 1) := by decide +kernel
theorem dL_closed_4 : decode cL_closed 4 = .ok (.iload_n 2, 1) := by decide +kernel
theorem dL_closed_5 : decode cL_closed 5 = .ok (.invokevirtual 134, 3) := by decide +kernel
theorem dL_closed_8 : decode cL_closed 8 = .ok (.i2l, 1) := by decide +kernel
theorem dL_closed_9 : decode cL_closed 9 = .ok (.lastore, 1) := by decide +kernel
theorem dL_closed_10 : decode cL_closed 10 = .ok (.goto 11, 3) := by decide +kernel
theorem dL_closed_13 : decode cL_closed 13 = .ok (.astore 4, 2) := by decide +kernel
theorem dL_closed_15 : decode cL_closed 15 = .ok (.iconst 1, 1) := by decide +kernel
theorem dL_closed_16 : decode cL_closed 16 = .ok (.ireturn, 1) := by decide +kernel
theorem dL_closed_17 : decode cL_closed 17 = .ok (.astore 4, 2) := by decide +kernel
theorem dL_closed_19 : decode cL_closed 19 = .ok (.iconst 2, 1) := by decide +kernel
theorem dL_closed_20 : decode cL_closed 20 = .ok (.ireturn, 1) := by decide +kernel
theorem dL_closed_21 : decode cL_closed 21 = .ok (.iconst 0, 1) := by decide +kernel
theorem dL_closed_22 : decode cL_closed 22 = .ok (.ireturn, 1) := by decide +kernel
theorem dL_copy_0 : decode cL_copy 0 = .ok (.aload_n 3, 1) := by decide +kernel
theorem dL_copy_1 : decode cL_copy 1 = .ok (.iconst 0, 1) := by decide +kernel
theorem dL_copy_2 : decode cL_copy 2 = .ok (.aload_n 0, 1) := by decide +kernel
theorem dL_copy_3 : decode cL_copy 3 = .ok (.iload_n 1, 1) := by decide +kernel
theorem dL_copy_4 : decode cL_copy 4 = .ok (.iload_n 2, 1) := by decide +kernel
theorem dL_copy_5 : decode cL_copy 5 = .ok (.invokevirtual 48, 3) := by decide +kernel
theorem dL_copy_8 : decode cL_copy 8 = .ok (.i2l, 1) := by decide +kernel
theorem dL_copy_9 : decode cL_copy 9 = .ok (.lastore, 1) := by decide +kernel
theorem dL_copy_10 : decode cL_copy 10 = .ok (.goto 7, 3) := by decide +kernel
theorem dL_copy_13 : decode cL_copy 13 = .ok (.astore 4, 2) := by decide +kernel
theorem dL_copy_15 : decode cL_copy 15 = .ok (.iconst 1, 1) := by decide +kernel
theorem dL_copy_16 : decode cL_copy 16 = .ok (.ireturn, 1) := by decide +kernel
theorem dL_copy_17 : decode cL_copy 17 = .ok (.iconst 0, 1) := by decide +kernel
theorem dL_copy_18 : decode cL_copy 18 = .ok (.ireturn, 1) := by decide +kernel
theorem dL_drop_0 : decode cL_drop 0 = .ok (.aload_n 3, 1) := by decide +kernel
theorem dL_drop_1 : decode cL_drop 1 = .ok (.iconst 0, 1) := by decide +kernel
theorem dL_drop_2 : decode cL_drop 2 = .ok (.aload_n 0, 1) := by decide +kernel
theorem dL_drop_3 : decode cL_drop 3 = .ok (.iload_n 1, 1) := by decide +kernel
theorem dL_drop_4 : decode cL_drop 4 = .ok (.iload_n 2, 1) := by decide +kernel
theorem dL_drop_5 : decode cL_drop 5 = .ok (.invokevirtual 25, 3) := by decide +kernel
theorem dL_drop_8 : decode cL_drop 8 = .ok (.i2l, 1) := by decide +kernel
theorem dL_drop_9 : decode cL_drop 9 = .ok (.lastore, 1) := by decide +kernel
theorem dL_drop_10 : decode cL_drop 10 = .ok (.goto 7, 3) := by decide +kernel
theorem dL_drop_13 : decode cL_drop 13 = .ok (.astore 4, 2) := by decide +kernel
theorem dL_drop_15 : decode cL_drop 15 = .ok (.iconst 1, 1) := by decide +kernel
theorem dL_drop_16 : decode cL_drop 16 = .ok (.ireturn, 1) := by decide +kernel
theorem dL_drop_17 : decode cL_drop 17 = .ok (.iconst 0, 1) := by decide +kernel
theorem dL_drop_18 : decode cL_drop 18 = .ok (.ireturn, 1) := by decide +kernel
theorem dL_ends_0 : decode cL_ends 0 = .ok (.aload_n 3, 1) := by decide +kernel
theorem dL_ends_1 : decode cL_ends 1 = .ok (.iconst 0, 1) := by decide +kernel
theorem dL_ends_2 : decode cL_ends 2 = .ok (.aload_n 0, 1) := by decide +kernel
theorem dL_ends_3 : decode cL_ends 3 = .ok (.iload_n 1, 1) := by decide +kernel
theorem dL_ends_4 : decode cL_ends 4 = .ok (.iload_n 2, 1) := by decide +kernel
theorem dL_ends_5 : decode cL_ends 5 = .ok (.invokevirtual 83, 3) := by decide +kernel
theorem dL_ends_8 : decode cL_ends 8 = .ok (.i2l, 1) := by decide +kernel
theorem dL_ends_9 : decode cL_ends 9 = .ok (.lastore, 1) := by decide +kernel
theorem dL_ends_10 : decode cL_ends 10 = .ok (.goto 7, 3) := by decide +kernel
theorem dL_ends_13 : decode cL_ends 13 = .ok (.astore 4, 2) := by decide +kernel
theorem dL_ends_15 : decode cL_ends 15 = .ok (.iconst 1, 1) := by decide +kernel
theorem dL_ends_16 : decode cL_ends 16 = .ok (.ireturn, 1) := by decide +kernel
theorem dL_ends_17 : decode cL_ends 17 = .ok (.iconst 0, 1) := by decide +kernel
theorem dL_ends_18 : decode cL_ends 18 = .ok (.ireturn, 1) := by decide +kernel
theorem dL_fewestAparts_0 : decode cL_fewestAparts 0 = .ok (.aload_n 2, 1) := by decide +kernel
theorem dL_fewestAparts_1 : decode cL_fewestAparts 1 = .ok (.iconst 0, 1) := by decide +kernel
theorem dL_fewestAparts_2 : decode cL_fewestAparts 2 = .ok (.aload_n 0, 1) := by decide +kernel
theorem dL_fewestAparts_3 : decode cL_fewestAparts 3 = .ok (.iload_n 1, 1) := by decide +kernel
theorem dL_fewestAparts_4 : decode cL_fewestAparts 4 = .ok (.invokevirtual 112, 3) := by decide +kernel
theorem dL_fewestAparts_7 : decode cL_fewestAparts 7 = .ok (.i2l, 1) := by decide +kernel
theorem dL_fewestAparts_8 : decode cL_fewestAparts 8 = .ok (.lastore, 1) := by decide +kernel
theorem dL_fewestAparts_9 : decode cL_fewestAparts 9 = .ok (.goto 6, 3) := by decide +kernel
theorem dL_fewestAparts_12 : decode cL_fewestAparts 12 = .ok (.astore_n 3, 1) := by decide +kernel
theorem dL_fewestAparts_13 : decode cL_fewestAparts 13 = .ok (.iconst 1, 1) := by decide +kernel
theorem dL_fewestAparts_14 : decode cL_fewestAparts 14 = .ok (.ireturn, 1) := by decide +kernel
theorem dL_fewestAparts_15 : decode cL_fewestAparts 15 = .ok (.iconst 0, 1) := by decide +kernel
theorem dL_fewestAparts_16 : decode cL_fewestAparts 16 = .ok (.ireturn, 1) := by decide +kernel
theorem dL_fewestChains_0 : decode cL_fewestChains 0 = .ok (.aload_n 2, 1) := by decide +kernel
theorem dL_fewestChains_1 : decode cL_fewestChains 1 = .ok (.iconst 0, 1) := by decide +kernel
theorem dL_fewestChains_2 : decode cL_fewestChains 2 = .ok (.aload_n 0, 1) := by decide +kernel
theorem dL_fewestChains_3 : decode cL_fewestChains 3 = .ok (.iload_n 1, 1) := by decide +kernel
theorem dL_fewestChains_4 : decode cL_fewestChains 4 = .ok (.invokevirtual 109, 3) := by decide +kernel
theorem dL_fewestChains_7 : decode cL_fewestChains 7 = .ok (.i2l, 1) := by decide +kernel
theorem dL_fewestChains_8 : decode cL_fewestChains 8 = .ok (.lastore, 1) := by decide +kernel
theorem dL_fewestChains_9 : decode cL_fewestChains 9 = .ok (.goto 6, 3) := by decide +kernel
theorem dL_fewestChains_12 : decode cL_fewestChains 12 = .ok (.astore_n 3, 1) := by decide +kernel
theorem dL_fewestChains_13 : decode cL_fewestChains 13 = .ok (.iconst 1, 1) := by decide +kernel
theorem dL_fewestChains_14 : decode cL_fewestChains 14 = .ok (.ireturn, 1) := by decide +kernel
theorem dL_fewestChains_15 : decode cL_fewestChains 15 = .ok (.iconst 0, 1) := by decide +kernel
theorem dL_fewestChains_16 : decode cL_fewestChains 16 = .ok (.ireturn, 1) := by decide +kernel
theorem dL_inner_0 : decode cL_inner 0 = .ok (.aload_n 3, 1) := by decide +kernel
theorem dL_inner_1 : decode cL_inner 1 = .ok (.iconst 0, 1) := by decide +kernel
theorem dL_inner_2 : decode cL_inner 2 = .ok (.aload_n 0, 1) := by decide +kernel
theorem dL_inner_3 : decode cL_inner 3 = .ok (.iload_n 1, 1) := by decide +kernel
theorem dL_inner_4 : decode cL_inner 4 = .ok (.iload_n 2, 1) := by decide +kernel
theorem dL_inner_5 : decode cL_inner 5 = .ok (.invokevirtual 137, 3) := by decide +kernel
theorem dL_inner_8 : decode cL_inner 8 = .ok (.i2l, 1) := by decide +kernel
theorem dL_inner_9 : decode cL_inner 9 = .ok (.lastore, 1) := by decide +kernel
theorem dL_inner_10 : decode cL_inner 10 = .ok (.goto 11, 3) := by decide +kernel
theorem dL_inner_13 : decode cL_inner 13 = .ok (.astore 4, 2) := by decide +kernel
theorem dL_inner_15 : decode cL_inner 15 = .ok (.iconst 1, 1) := by decide +kernel
theorem dL_inner_16 : decode cL_inner 16 = .ok (.ireturn, 1) := by decide +kernel
theorem dL_inner_17 : decode cL_inner 17 = .ok (.astore 4, 2) := by decide +kernel
theorem dL_inner_19 : decode cL_inner 19 = .ok (.iconst 2, 1) := by decide +kernel
theorem dL_inner_20 : decode cL_inner 20 = .ok (.ireturn, 1) := by decide +kernel
theorem dL_inner_21 : decode cL_inner 21 = .ok (.iconst 0, 1) := by decide +kernel
theorem dL_inner_22 : decode cL_inner 22 = .ok (.ireturn, 1) := by decide +kernel
theorem dL_isApart_0 : decode cL_isApart 0 = .ok (.aload_n 3, 1) := by decide +kernel
theorem dL_isApart_1 : decode cL_isApart 1 = .ok (.iconst 0, 1) := by decide +kernel
theorem dL_isApart_2 : decode cL_isApart 2 = .ok (.aload_n 0, 1) := by decide +kernel
theorem dL_isApart_3 : decode cL_isApart 3 = .ok (.iload_n 1, 1) := by decide +kernel
theorem dL_isApart_4 : decode cL_isApart 4 = .ok (.iload_n 2, 1) := by decide +kernel
theorem dL_isApart_5 : decode cL_isApart 5 = .ok (.invokevirtual 97, 3) := by decide +kernel
theorem dL_isApart_8 : decode cL_isApart 8 = .ok (.ifCond .eq 7, 3) := by decide +kernel
theorem dL_isApart_11 : decode cL_isApart 11 = .ok (.lconst 1, 1) := by decide +kernel
theorem dL_isApart_12 : decode cL_isApart 12 = .ok (.goto 4, 3) := by decide +kernel
theorem dL_isApart_15 : decode cL_isApart 15 = .ok (.lconst 0, 1) := by decide +kernel
theorem dL_isApart_16 : decode cL_isApart 16 = .ok (.lastore, 1) := by decide +kernel
theorem dL_isApart_17 : decode cL_isApart 17 = .ok (.goto 11, 3) := by decide +kernel
theorem dL_isApart_20 : decode cL_isApart 20 = .ok (.astore 4, 2) := by decide +kernel
theorem dL_isApart_22 : decode cL_isApart 22 = .ok (.iconst 1, 1) := by decide +kernel
theorem dL_isApart_23 : decode cL_isApart 23 = .ok (.ireturn, 1) := by decide +kernel
theorem dL_isApart_24 : decode cL_isApart 24 = .ok (.astore 4, 2) := by decide +kernel
theorem dL_isApart_26 : decode cL_isApart 26 = .ok (.iconst 2, 1) := by decide +kernel
theorem dL_isApart_27 : decode cL_isApart 27 = .ok (.ireturn, 1) := by decide +kernel
theorem dL_isApart_28 : decode cL_isApart 28 = .ok (.iconst 0, 1) := by decide +kernel
theorem dL_isApart_29 : decode cL_isApart 29 = .ok (.ireturn, 1) := by decide +kernel
theorem dL_isChain_0 : decode cL_isChain 0 = .ok (.aload_n 3, 1) := by decide +kernel
theorem dL_isChain_1 : decode cL_isChain 1 = .ok (.iconst 0, 1) := by decide +kernel
theorem dL_isChain_2 : decode cL_isChain 2 = .ok (.aload_n 0, 1) := by decide +kernel
theorem dL_isChain_3 : decode cL_isChain 3 = .ok (.iload_n 1, 1) := by decide +kernel
theorem dL_isChain_4 : decode cL_isChain 4 = .ok (.iload_n 2, 1) := by decide +kernel
theorem dL_isChain_5 : decode cL_isChain 5 = .ok (.invokevirtual 94, 3) := by decide +kernel
theorem dL_isChain_8 : decode cL_isChain 8 = .ok (.ifCond .eq 7, 3) := by decide +kernel
theorem dL_isChain_11 : decode cL_isChain 11 = .ok (.lconst 1, 1) := by decide +kernel
theorem dL_isChain_12 : decode cL_isChain 12 = .ok (.goto 4, 3) := by decide +kernel
theorem dL_isChain_15 : decode cL_isChain 15 = .ok (.lconst 0, 1) := by decide +kernel
theorem dL_isChain_16 : decode cL_isChain 16 = .ok (.lastore, 1) := by decide +kernel
theorem dL_isChain_17 : decode cL_isChain 17 = .ok (.goto 11, 3) := by decide +kernel
theorem dL_isChain_20 : decode cL_isChain 20 = .ok (.astore 4, 2) := by decide +kernel
theorem dL_isChain_22 : decode cL_isChain 22 = .ok (.iconst 1, 1) := by decide +kernel
theorem dL_isChain_23 : decode cL_isChain 23 = .ok (.ireturn, 1) := by decide +kernel
theorem dL_isChain_24 : decode cL_isChain 24 = .ok (.astore 4, 2) := by decide +kernel
theorem dL_isChain_26 : decode cL_isChain 26 = .ok (.iconst 2, 1) := by decide +kernel
theorem dL_isChain_27 : decode cL_isChain 27 = .ok (.ireturn, 1) := by decide +kernel
theorem dL_isChain_28 : decode cL_isChain 28 = .ok (.iconst 0, 1) := by decide +kernel
theorem dL_isChain_29 : decode cL_isChain 29 = .ok (.ireturn, 1) := by decide +kernel
theorem dL_isNext_0 : decode cL_isNext 0 = .ok (.aload 4, 2) := by decide +kernel
theorem dL_isNext_2 : decode cL_isNext 2 = .ok (.iconst 0, 1) := by decide +kernel
theorem dL_isNext_3 : decode cL_isNext 3 = .ok (.aload_n 0, 1) := by decide +kernel
theorem dL_isNext_4 : decode cL_isNext 4 = .ok (.iload_n 1, 1) := by decide +kernel
theorem dL_isNext_5 : decode cL_isNext 5 = .ok (.iload_n 2, 1) := by decide +kernel
theorem dL_isNext_6 : decode cL_isNext 6 = .ok (.iload_n 3, 1) := by decide +kernel
theorem dL_isNext_7 : decode cL_isNext 7 = .ok (.invokevirtual 73, 3) := by decide +kernel
theorem dL_isNext_10 : decode cL_isNext 10 = .ok (.ifCond .eq 7, 3) := by decide +kernel
theorem dL_isNext_13 : decode cL_isNext 13 = .ok (.lconst 1, 1) := by decide +kernel
theorem dL_isNext_14 : decode cL_isNext 14 = .ok (.goto 4, 3) := by decide +kernel
theorem dL_isNext_17 : decode cL_isNext 17 = .ok (.lconst 0, 1) := by decide +kernel
theorem dL_isNext_18 : decode cL_isNext 18 = .ok (.lastore, 1) := by decide +kernel
theorem dL_isNext_19 : decode cL_isNext 19 = .ok (.goto 7, 3) := by decide +kernel
theorem dL_isNext_22 : decode cL_isNext 22 = .ok (.astore 5, 2) := by decide +kernel
theorem dL_isNext_24 : decode cL_isNext 24 = .ok (.iconst 1, 1) := by decide +kernel
theorem dL_isNext_25 : decode cL_isNext 25 = .ok (.ireturn, 1) := by decide +kernel
theorem dL_isNext_26 : decode cL_isNext 26 = .ok (.iconst 0, 1) := by decide +kernel
theorem dL_isNext_27 : decode cL_isNext 27 = .ok (.ireturn, 1) := by decide +kernel
theorem dL_isSame_0 : decode cL_isSame 0 = .ok (.aload_n 3, 1) := by decide +kernel
theorem dL_isSame_1 : decode cL_isSame 1 = .ok (.iconst 0, 1) := by decide +kernel
theorem dL_isSame_2 : decode cL_isSame 2 = .ok (.aload_n 0, 1) := by decide +kernel
theorem dL_isSame_3 : decode cL_isSame 3 = .ok (.iload_n 1, 1) := by decide +kernel
theorem dL_isSame_4 : decode cL_isSame 4 = .ok (.iload_n 2, 1) := by decide +kernel
theorem dL_isSame_5 : decode cL_isSame 5 = .ok (.invokevirtual 90, 3) := by decide +kernel
theorem dL_isSame_8 : decode cL_isSame 8 = .ok (.ifCond .eq 7, 3) := by decide +kernel
theorem dL_isSame_11 : decode cL_isSame 11 = .ok (.lconst 1, 1) := by decide +kernel
theorem dL_isSame_12 : decode cL_isSame 12 = .ok (.goto 4, 3) := by decide +kernel
theorem dL_isSame_15 : decode cL_isSame 15 = .ok (.lconst 0, 1) := by decide +kernel
theorem dL_isSame_16 : decode cL_isSame 16 = .ok (.lastore, 1) := by decide +kernel
theorem dL_isSame_17 : decode cL_isSame 17 = .ok (.goto 7, 3) := by decide +kernel
theorem dL_isSame_20 : decode cL_isSame 20 = .ok (.astore 4, 2) := by decide +kernel
theorem dL_isSame_22 : decode cL_isSame 22 = .ok (.iconst 1, 1) := by decide +kernel
theorem dL_isSame_23 : decode cL_isSame 23 = .ok (.ireturn, 1) := by decide +kernel
theorem dL_isSame_24 : decode cL_isSame 24 = .ok (.iconst 0, 1) := by decide +kernel
theorem dL_isSame_25 : decode cL_isSame 25 = .ok (.ireturn, 1) := by decide +kernel
theorem dL_isSound_0 : decode cL_isSound 0 = .ok (.aload_n 2, 1) := by decide +kernel
theorem dL_isSound_1 : decode cL_isSound 1 = .ok (.iconst 0, 1) := by decide +kernel
theorem dL_isSound_2 : decode cL_isSound 2 = .ok (.aload_n 0, 1) := by decide +kernel
theorem dL_isSound_3 : decode cL_isSound 3 = .ok (.iload_n 1, 1) := by decide +kernel
theorem dL_isSound_4 : decode cL_isSound 4 = .ok (.invokevirtual 181, 3) := by decide +kernel
theorem dL_isSound_7 : decode cL_isSound 7 = .ok (.ifCond .eq 7, 3) := by decide +kernel
theorem dL_isSound_10 : decode cL_isSound 10 = .ok (.lconst 1, 1) := by decide +kernel
theorem dL_isSound_11 : decode cL_isSound 11 = .ok (.goto 4, 3) := by decide +kernel
theorem dL_isSound_14 : decode cL_isSound 14 = .ok (.lconst 0, 1) := by decide +kernel
theorem dL_isSound_15 : decode cL_isSound 15 = .ok (.lastore, 1) := by decide +kernel
theorem dL_isSound_16 : decode cL_isSound 16 = .ok (.goto 6, 3) := by decide +kernel
theorem dL_isSound_19 : decode cL_isSound 19 = .ok (.astore_n 3, 1) := by decide +kernel
theorem dL_isSound_20 : decode cL_isSound 20 = .ok (.iconst 1, 1) := by decide +kernel
theorem dL_isSound_21 : decode cL_isSound 21 = .ok (.ireturn, 1) := by decide +kernel
theorem dL_isSound_22 : decode cL_isSound 22 = .ok (.iconst 0, 1) := by decide +kernel
theorem dL_isSound_23 : decode cL_isSound 23 = .ok (.ireturn, 1) := by decide +kernel
theorem dL_keep_0 : decode cL_keep 0 = .ok (.aload_n 3, 1) := by decide +kernel
theorem dL_keep_1 : decode cL_keep 1 = .ok (.iconst 0, 1) := by decide +kernel
theorem dL_keep_2 : decode cL_keep 2 = .ok (.aload_n 0, 1) := by decide +kernel
theorem dL_keep_3 : decode cL_keep 3 = .ok (.iload_n 1, 1) := by decide +kernel
theorem dL_keep_4 : decode cL_keep 4 = .ok (.iload_n 2, 1) := by decide +kernel
theorem dL_keep_5 : decode cL_keep 5 = .ok (.invokevirtual 28, 3) := by decide +kernel
theorem dL_keep_8 : decode cL_keep 8 = .ok (.i2l, 1) := by decide +kernel
theorem dL_keep_9 : decode cL_keep 9 = .ok (.lastore, 1) := by decide +kernel
theorem dL_keep_10 : decode cL_keep 10 = .ok (.goto 11, 3) := by decide +kernel
theorem dL_keep_13 : decode cL_keep 13 = .ok (.astore 4, 2) := by decide +kernel
theorem dL_keep_15 : decode cL_keep 15 = .ok (.iconst 1, 1) := by decide +kernel
theorem dL_keep_16 : decode cL_keep 16 = .ok (.ireturn, 1) := by decide +kernel
theorem dL_keep_17 : decode cL_keep 17 = .ok (.astore 4, 2) := by decide +kernel
theorem dL_keep_19 : decode cL_keep 19 = .ok (.iconst 2, 1) := by decide +kernel
theorem dL_keep_20 : decode cL_keep 20 = .ok (.ireturn, 1) := by decide +kernel
theorem dL_keep_21 : decode cL_keep 21 = .ok (.iconst 0, 1) := by decide +kernel
theorem dL_keep_22 : decode cL_keep 22 = .ok (.ireturn, 1) := by decide +kernel
theorem dL_lay_0 : decode cL_lay 0 = .ok (.aload_n 3, 1) := by decide +kernel
theorem dL_lay_1 : decode cL_lay 1 = .ok (.iconst 0, 1) := by decide +kernel
theorem dL_lay_2 : decode cL_lay 2 = .ok (.aload_n 0, 1) := by decide +kernel
theorem dL_lay_3 : decode cL_lay 3 = .ok (.iload_n 1, 1) := by decide +kernel
theorem dL_lay_4 : decode cL_lay 4 = .ok (.iload_n 2, 1) := by decide +kernel
theorem dL_lay_5 : decode cL_lay 5 = .ok (.invokevirtual 7, 3) := by decide +kernel
theorem dL_lay_8 : decode cL_lay 8 = .ok (.i2l, 1) := by decide +kernel
theorem dL_lay_9 : decode cL_lay 9 = .ok (.lastore, 1) := by decide +kernel
theorem dL_lay_10 : decode cL_lay 10 = .ok (.goto 11, 3) := by decide +kernel
theorem dL_lay_13 : decode cL_lay 13 = .ok (.astore 4, 2) := by decide +kernel
theorem dL_lay_15 : decode cL_lay 15 = .ok (.iconst 1, 1) := by decide +kernel
theorem dL_lay_16 : decode cL_lay 16 = .ok (.ireturn, 1) := by decide +kernel
theorem dL_lay_17 : decode cL_lay 17 = .ok (.astore 4, 2) := by decide +kernel
theorem dL_lay_19 : decode cL_lay 19 = .ok (.iconst 2, 1) := by decide +kernel
theorem dL_lay_20 : decode cL_lay 20 = .ok (.ireturn, 1) := by decide +kernel
theorem dL_lay_21 : decode cL_lay 21 = .ok (.iconst 0, 1) := by decide +kernel
theorem dL_lay_22 : decode cL_lay 22 = .ok (.ireturn, 1) := by decide +kernel
theorem dL_level_0 : decode cL_level 0 = .ok (.aload_n 3, 1) := by decide +kernel
theorem dL_level_1 : decode cL_level 1 = .ok (.iconst 0, 1) := by decide +kernel
theorem dL_level_2 : decode cL_level 2 = .ok (.aload_n 0, 1) := by decide +kernel
theorem dL_level_3 : decode cL_level 3 = .ok (.iload_n 1, 1) := by decide +kernel
theorem dL_level_4 : decode cL_level 4 = .ok (.iload_n 2, 1) := by decide +kernel
theorem dL_level_5 : decode cL_level 5 = .ok (.invokevirtual 100, 3) := by decide +kernel
theorem dL_level_8 : decode cL_level 8 = .ok (.i2l, 1) := by decide +kernel
theorem dL_level_9 : decode cL_level 9 = .ok (.lastore, 1) := by decide +kernel
theorem dL_level_10 : decode cL_level 10 = .ok (.goto 7, 3) := by decide +kernel
theorem dL_level_13 : decode cL_level 13 = .ok (.astore 4, 2) := by decide +kernel
theorem dL_level_15 : decode cL_level 15 = .ok (.iconst 1, 1) := by decide +kernel
theorem dL_level_16 : decode cL_level 16 = .ok (.ireturn, 1) := by decide +kernel
theorem dL_level_17 : decode cL_level 17 = .ok (.iconst 0, 1) := by decide +kernel
theorem dL_level_18 : decode cL_level 18 = .ok (.ireturn, 1) := by decide +kernel
theorem dL_longest_0 : decode cL_longest 0 = .ok (.aload_n 2, 1) := by decide +kernel
theorem dL_longest_1 : decode cL_longest 1 = .ok (.iconst 0, 1) := by decide +kernel
theorem dL_longest_2 : decode cL_longest 2 = .ok (.aload_n 0, 1) := by decide +kernel
theorem dL_longest_3 : decode cL_longest 3 = .ok (.iload_n 1, 1) := by decide +kernel
theorem dL_longest_4 : decode cL_longest 4 = .ok (.invokevirtual 103, 3) := by decide +kernel
theorem dL_longest_7 : decode cL_longest 7 = .ok (.i2l, 1) := by decide +kernel
theorem dL_longest_8 : decode cL_longest 8 = .ok (.lastore, 1) := by decide +kernel
theorem dL_longest_9 : decode cL_longest 9 = .ok (.goto 6, 3) := by decide +kernel
theorem dL_longest_12 : decode cL_longest 12 = .ok (.astore_n 3, 1) := by decide +kernel
theorem dL_longest_13 : decode cL_longest 13 = .ok (.iconst 1, 1) := by decide +kernel
theorem dL_longest_14 : decode cL_longest 14 = .ok (.ireturn, 1) := by decide +kernel
theorem dL_longest_15 : decode cL_longest 15 = .ok (.iconst 0, 1) := by decide +kernel
theorem dL_longest_16 : decode cL_longest 16 = .ok (.ireturn, 1) := by decide +kernel
theorem dL_loose_0 : decode cL_loose 0 = .ok (.aload 4, 2) := by decide +kernel
theorem dL_loose_2 : decode cL_loose 2 = .ok (.iconst 0, 1) := by decide +kernel
theorem dL_loose_3 : decode cL_loose 3 = .ok (.aload_n 0, 1) := by decide +kernel
theorem dL_loose_4 : decode cL_loose 4 = .ok (.iload_n 1, 1) := by decide +kernel
theorem dL_loose_5 : decode cL_loose 5 = .ok (.iload_n 2, 1) := by decide +kernel
theorem dL_loose_6 : decode cL_loose 6 = .ok (.iload_n 3, 1) := by decide +kernel
theorem dL_loose_7 : decode cL_loose 7 = .ok (.invokevirtual 38, 3) := by decide +kernel
theorem dL_loose_10 : decode cL_loose 10 = .ok (.i2l, 1) := by decide +kernel
theorem dL_loose_11 : decode cL_loose 11 = .ok (.lastore, 1) := by decide +kernel
theorem dL_loose_12 : decode cL_loose 12 = .ok (.goto 7, 3) := by decide +kernel
theorem dL_loose_15 : decode cL_loose 15 = .ok (.astore 5, 2) := by decide +kernel
theorem dL_loose_17 : decode cL_loose 17 = .ok (.iconst 1, 1) := by decide +kernel
theorem dL_loose_18 : decode cL_loose 18 = .ok (.ireturn, 1) := by decide +kernel
theorem dL_loose_19 : decode cL_loose 19 = .ok (.iconst 0, 1) := by decide +kernel
theorem dL_loose_20 : decode cL_loose 20 = .ok (.ireturn, 1) := by decide +kernel
theorem dL_lower_0 : decode cL_lower 0 = .ok (.aload_n 3, 1) := by decide +kernel
theorem dL_lower_1 : decode cL_lower 1 = .ok (.iconst 0, 1) := by decide +kernel
theorem dL_lower_2 : decode cL_lower 2 = .ok (.aload_n 0, 1) := by decide +kernel
theorem dL_lower_3 : decode cL_lower 3 = .ok (.iload_n 1, 1) := by decide +kernel
theorem dL_lower_4 : decode cL_lower 4 = .ok (.iload_n 2, 1) := by decide +kernel
theorem dL_lower_5 : decode cL_lower 5 = .ok (.invokevirtual 77, 3) := by decide +kernel
theorem dL_lower_8 : decode cL_lower 8 = .ok (.i2l, 1) := by decide +kernel
theorem dL_lower_9 : decode cL_lower 9 = .ok (.lastore, 1) := by decide +kernel
theorem dL_lower_10 : decode cL_lower 10 = .ok (.goto 7, 3) := by decide +kernel
theorem dL_lower_13 : decode cL_lower 13 = .ok (.astore 4, 2) := by decide +kernel
theorem dL_lower_15 : decode cL_lower 15 = .ok (.iconst 1, 1) := by decide +kernel
theorem dL_lower_16 : decode cL_lower 16 = .ok (.ireturn, 1) := by decide +kernel
theorem dL_lower_17 : decode cL_lower 17 = .ok (.iconst 0, 1) := by decide +kernel
theorem dL_lower_18 : decode cL_lower 18 = .ok (.ireturn, 1) := by decide +kernel
theorem dL_meanPlace_0 : decode cL_meanPlace 0 = .ok (.aload_n 3, 1) := by decide +kernel
theorem dL_meanPlace_1 : decode cL_meanPlace 1 = .ok (.iconst 0, 1) := by decide +kernel
theorem dL_meanPlace_2 : decode cL_meanPlace 2 = .ok (.aload_n 0, 1) := by decide +kernel
theorem dL_meanPlace_3 : decode cL_meanPlace 3 = .ok (.iload_n 1, 1) := by decide +kernel
theorem dL_meanPlace_4 : decode cL_meanPlace 4 = .ok (.iload_n 2, 1) := by decide +kernel
theorem dL_meanPlace_5 : decode cL_meanPlace 5 = .ok (.invokevirtual 164, 3) := by decide +kernel
theorem dL_meanPlace_8 : decode cL_meanPlace 8 = .ok (.dastore, 1) := by decide +kernel
theorem dL_meanPlace_9 : decode cL_meanPlace 9 = .ok (.goto 7, 3) := by decide +kernel
theorem dL_meanPlace_12 : decode cL_meanPlace 12 = .ok (.astore 4, 2) := by decide +kernel
theorem dL_meanPlace_14 : decode cL_meanPlace 14 = .ok (.iconst 1, 1) := by decide +kernel
theorem dL_meanPlace_15 : decode cL_meanPlace 15 = .ok (.ireturn, 1) := by decide +kernel
theorem dL_meanPlace_16 : decode cL_meanPlace 16 = .ok (.iconst 0, 1) := by decide +kernel
theorem dL_meanPlace_17 : decode cL_meanPlace 17 = .ok (.ireturn, 1) := by decide +kernel
theorem dL_meet_0 : decode cL_meet 0 = .ok (.aload 4, 2) := by decide +kernel
theorem dL_meet_2 : decode cL_meet 2 = .ok (.iconst 0, 1) := by decide +kernel
theorem dL_meet_3 : decode cL_meet 3 = .ok (.aload_n 0, 1) := by decide +kernel
theorem dL_meet_4 : decode cL_meet 4 = .ok (.iload_n 1, 1) := by decide +kernel
theorem dL_meet_5 : decode cL_meet 5 = .ok (.iload_n 2, 1) := by decide +kernel
theorem dL_meet_6 : decode cL_meet 6 = .ok (.iload_n 3, 1) := by decide +kernel
theorem dL_meet_7 : decode cL_meet 7 = .ok (.invokevirtual 57, 3) := by decide +kernel
theorem dL_meet_10 : decode cL_meet 10 = .ok (.i2l, 1) := by decide +kernel
theorem dL_meet_11 : decode cL_meet 11 = .ok (.lastore, 1) := by decide +kernel
theorem dL_meet_12 : decode cL_meet 12 = .ok (.goto 7, 3) := by decide +kernel
theorem dL_meet_15 : decode cL_meet 15 = .ok (.astore 5, 2) := by decide +kernel
theorem dL_meet_17 : decode cL_meet 17 = .ok (.iconst 1, 1) := by decide +kernel
theorem dL_meet_18 : decode cL_meet 18 = .ok (.ireturn, 1) := by decide +kernel
theorem dL_meet_19 : decode cL_meet 19 = .ok (.iconst 0, 1) := by decide +kernel
theorem dL_meet_20 : decode cL_meet 20 = .ok (.ireturn, 1) := by decide +kernel
theorem dL_near_0 : decode cL_near 0 = .ok (.aload 4, 2) := by decide +kernel
theorem dL_near_2 : decode cL_near 2 = .ok (.iconst 0, 1) := by decide +kernel
theorem dL_near_3 : decode cL_near 3 = .ok (.aload_n 0, 1) := by decide +kernel
theorem dL_near_4 : decode cL_near 4 = .ok (.iload_n 1, 1) := by decide +kernel
theorem dL_near_5 : decode cL_near 5 = .ok (.iload_n 2, 1) := by decide +kernel
theorem dL_near_6 : decode cL_near 6 = .ok (.iload_n 3, 1) := by decide +kernel
theorem dL_near_7 : decode cL_near 7 = .ok (.invokevirtual 130, 3) := by decide +kernel
theorem dL_near_10 : decode cL_near 10 = .ok (.i2l, 1) := by decide +kernel
theorem dL_near_11 : decode cL_near 11 = .ok (.lastore, 1) := by decide +kernel
theorem dL_near_12 : decode cL_near 12 = .ok (.goto 11, 3) := by decide +kernel
theorem dL_near_15 : decode cL_near 15 = .ok (.astore 5, 2) := by decide +kernel
theorem dL_near_17 : decode cL_near 17 = .ok (.iconst 1, 1) := by decide +kernel
theorem dL_near_18 : decode cL_near 18 = .ok (.ireturn, 1) := by decide +kernel
theorem dL_near_19 : decode cL_near 19 = .ok (.astore 5, 2) := by decide +kernel
theorem dL_near_21 : decode cL_near 21 = .ok (.iconst 2, 1) := by decide +kernel
theorem dL_near_22 : decode cL_near 22 = .ok (.ireturn, 1) := by decide +kernel
theorem dL_near_23 : decode cL_near 23 = .ok (.iconst 0, 1) := by decide +kernel
theorem dL_near_24 : decode cL_near 24 = .ok (.ireturn, 1) := by decide +kernel
theorem dL_nextRow_0 : decode cL_nextRow 0 = .ok (.aload_n 3, 1) := by decide +kernel
theorem dL_nextRow_1 : decode cL_nextRow 1 = .ok (.iconst 0, 1) := by decide +kernel
theorem dL_nextRow_2 : decode cL_nextRow 2 = .ok (.aload_n 0, 1) := by decide +kernel
theorem dL_nextRow_3 : decode cL_nextRow 3 = .ok (.iload_n 1, 1) := by decide +kernel
theorem dL_nextRow_4 : decode cL_nextRow 4 = .ok (.iload_n 2, 1) := by decide +kernel
theorem dL_nextRow_5 : decode cL_nextRow 5 = .ok (.invokevirtual 155, 3) := by decide +kernel
theorem dL_nextRow_8 : decode cL_nextRow 8 = .ok (.i2l, 1) := by decide +kernel
theorem dL_nextRow_9 : decode cL_nextRow 9 = .ok (.lastore, 1) := by decide +kernel
theorem dL_nextRow_10 : decode cL_nextRow 10 = .ok (.goto 11, 3) := by decide +kernel
theorem dL_nextRow_13 : decode cL_nextRow 13 = .ok (.astore 4, 2) := by decide +kernel
theorem dL_nextRow_15 : decode cL_nextRow 15 = .ok (.iconst 1, 1) := by decide +kernel
theorem dL_nextRow_16 : decode cL_nextRow 16 = .ok (.ireturn, 1) := by decide +kernel
theorem dL_nextRow_17 : decode cL_nextRow 17 = .ok (.astore 4, 2) := by decide +kernel
theorem dL_nextRow_19 : decode cL_nextRow 19 = .ok (.iconst 2, 1) := by decide +kernel
theorem dL_nextRow_20 : decode cL_nextRow 20 = .ok (.ireturn, 1) := by decide +kernel
theorem dL_nextRow_21 : decode cL_nextRow 21 = .ok (.iconst 0, 1) := by decide +kernel
theorem dL_nextRow_22 : decode cL_nextRow 22 = .ok (.ireturn, 1) := by decide +kernel
theorem dL_nexts_0 : decode cL_nexts 0 = .ok (.aload_n 2, 1) := by decide +kernel
theorem dL_nexts_1 : decode cL_nexts 1 = .ok (.iconst 0, 1) := by decide +kernel
theorem dL_nexts_2 : decode cL_nexts 2 = .ok (.aload_n 0, 1) := by decide +kernel
theorem dL_nexts_3 : decode cL_nexts 3 = .ok (.iload_n 1, 1) := by decide +kernel
theorem dL_nexts_4 : decode cL_nexts 4 = .ok (.invokevirtual 66, 3) := by decide +kernel
theorem dL_nexts_7 : decode cL_nexts 7 = .ok (.i2l, 1) := by decide +kernel
theorem dL_nexts_8 : decode cL_nexts 8 = .ok (.lastore, 1) := by decide +kernel
theorem dL_nexts_9 : decode cL_nexts 9 = .ok (.goto 6, 3) := by decide +kernel
theorem dL_nexts_12 : decode cL_nexts 12 = .ok (.astore_n 3, 1) := by decide +kernel
theorem dL_nexts_13 : decode cL_nexts 13 = .ok (.iconst 1, 1) := by decide +kernel
theorem dL_nexts_14 : decode cL_nexts 14 = .ok (.ireturn, 1) := by decide +kernel
theorem dL_nexts_15 : decode cL_nexts 15 = .ok (.iconst 0, 1) := by decide +kernel
theorem dL_nexts_16 : decode cL_nexts 16 = .ok (.ireturn, 1) := by decide +kernel
theorem dL_number_0 : decode cL_number 0 = .ok (.aload 4, 2) := by decide +kernel
theorem dL_number_2 : decode cL_number 2 = .ok (.iconst 0, 1) := by decide +kernel
theorem dL_number_3 : decode cL_number 3 = .ok (.aload_n 0, 1) := by decide +kernel
theorem dL_number_4 : decode cL_number 4 = .ok (.iload_n 1, 1) := by decide +kernel
theorem dL_number_5 : decode cL_number 5 = .ok (.iload_n 2, 1) := by decide +kernel
theorem dL_number_6 : decode cL_number 6 = .ok (.iload_n 3, 1) := by decide +kernel
theorem dL_number_7 : decode cL_number 7 = .ok (.invokevirtual 175, 3) := by decide +kernel
theorem dL_number_10 : decode cL_number 10 = .ok (.i2l, 1) := by decide +kernel
theorem dL_number_11 : decode cL_number 11 = .ok (.lastore, 1) := by decide +kernel
theorem dL_number_12 : decode cL_number 12 = .ok (.goto 7, 3) := by decide +kernel
theorem dL_number_15 : decode cL_number 15 = .ok (.astore 5, 2) := by decide +kernel
theorem dL_number_17 : decode cL_number 17 = .ok (.iconst 1, 1) := by decide +kernel
theorem dL_number_18 : decode cL_number 18 = .ok (.ireturn, 1) := by decide +kernel
theorem dL_number_19 : decode cL_number 19 = .ok (.iconst 0, 1) := by decide +kernel
theorem dL_number_20 : decode cL_number 20 = .ok (.ireturn, 1) := by decide +kernel
theorem dL_pairs_0 : decode cL_pairs 0 = .ok (.aload_n 2, 1) := by decide +kernel
theorem dL_pairs_1 : decode cL_pairs 1 = .ok (.iconst 0, 1) := by decide +kernel
theorem dL_pairs_2 : decode cL_pairs 2 = .ok (.aload_n 0, 1) := by decide +kernel
theorem dL_pairs_3 : decode cL_pairs 3 = .ok (.iload_n 1, 1) := by decide +kernel
theorem dL_pairs_4 : decode cL_pairs 4 = .ok (.invokevirtual 63, 3) := by decide +kernel
theorem dL_pairs_7 : decode cL_pairs 7 = .ok (.i2l, 1) := by decide +kernel
theorem dL_pairs_8 : decode cL_pairs 8 = .ok (.lastore, 1) := by decide +kernel
theorem dL_pairs_9 : decode cL_pairs 9 = .ok (.goto 6, 3) := by decide +kernel
theorem dL_pairs_12 : decode cL_pairs 12 = .ok (.astore_n 3, 1) := by decide +kernel
theorem dL_pairs_13 : decode cL_pairs 13 = .ok (.iconst 1, 1) := by decide +kernel
theorem dL_pairs_14 : decode cL_pairs 14 = .ok (.ireturn, 1) := by decide +kernel
theorem dL_pairs_15 : decode cL_pairs 15 = .ok (.iconst 0, 1) := by decide +kernel
theorem dL_pairs_16 : decode cL_pairs 16 = .ok (.ireturn, 1) := by decide +kernel
theorem dL_placeOf_0 : decode cL_placeOf 0 = .ok (.aload_n 3, 1) := by decide +kernel
theorem dL_placeOf_1 : decode cL_placeOf 1 = .ok (.iconst 0, 1) := by decide +kernel
theorem dL_placeOf_2 : decode cL_placeOf 2 = .ok (.aload_n 0, 1) := by decide +kernel
theorem dL_placeOf_3 : decode cL_placeOf 3 = .ok (.iload_n 1, 1) := by decide +kernel
theorem dL_placeOf_4 : decode cL_placeOf 4 = .ok (.iload_n 2, 1) := by decide +kernel
theorem dL_placeOf_5 : decode cL_placeOf 5 = .ok (.invokevirtual 127, 3) := by decide +kernel
theorem dL_placeOf_8 : decode cL_placeOf 8 = .ok (.i2l, 1) := by decide +kernel
theorem dL_placeOf_9 : decode cL_placeOf 9 = .ok (.lastore, 1) := by decide +kernel
theorem dL_placeOf_10 : decode cL_placeOf 10 = .ok (.goto 11, 3) := by decide +kernel
theorem dL_placeOf_13 : decode cL_placeOf 13 = .ok (.astore 4, 2) := by decide +kernel
theorem dL_placeOf_15 : decode cL_placeOf 15 = .ok (.iconst 1, 1) := by decide +kernel
theorem dL_placeOf_16 : decode cL_placeOf 16 = .ok (.ireturn, 1) := by decide +kernel
theorem dL_placeOf_17 : decode cL_placeOf 17 = .ok (.astore 4, 2) := by decide +kernel
theorem dL_placeOf_19 : decode cL_placeOf 19 = .ok (.iconst 2, 1) := by decide +kernel
theorem dL_placeOf_20 : decode cL_placeOf 20 = .ok (.ireturn, 1) := by decide +kernel
theorem dL_placeOf_21 : decode cL_placeOf 21 = .ok (.iconst 0, 1) := by decide +kernel
theorem dL_placeOf_22 : decode cL_placeOf 22 = .ok (.ireturn, 1) := by decide +kernel
theorem dL_put_0 : decode cL_put 0 = .ok (.aload 4, 2) := by decide +kernel
theorem dL_put_2 : decode cL_put 2 = .ok (.iconst 0, 1) := by decide +kernel
theorem dL_put_3 : decode cL_put 3 = .ok (.aload_n 0, 1) := by decide +kernel
theorem dL_put_4 : decode cL_put 4 = .ok (.iload_n 1, 1) := by decide +kernel
theorem dL_put_5 : decode cL_put 5 = .ok (.iload_n 2, 1) := by decide +kernel
theorem dL_put_6 : decode cL_put 6 = .ok (.iload_n 3, 1) := by decide +kernel
theorem dL_put_7 : decode cL_put 7 = .ok (.invokevirtual 35, 3) := by decide +kernel
theorem dL_put_10 : decode cL_put 10 = .ok (.i2l, 1) := by decide +kernel
theorem dL_put_11 : decode cL_put 11 = .ok (.lastore, 1) := by decide +kernel
theorem dL_put_12 : decode cL_put 12 = .ok (.goto 7, 3) := by decide +kernel
theorem dL_put_15 : decode cL_put 15 = .ok (.astore 5, 2) := by decide +kernel
theorem dL_put_17 : decode cL_put 17 = .ok (.iconst 1, 1) := by decide +kernel
theorem dL_put_18 : decode cL_put 18 = .ok (.ireturn, 1) := by decide +kernel
theorem dL_put_19 : decode cL_put 19 = .ok (.iconst 0, 1) := by decide +kernel
theorem dL_put_20 : decode cL_put 20 = .ok (.ireturn, 1) := by decide +kernel
theorem dL_rowAt_0 : decode cL_rowAt 0 = .ok (.aload_n 3, 1) := by decide +kernel
theorem dL_rowAt_1 : decode cL_rowAt 1 = .ok (.iconst 0, 1) := by decide +kernel
theorem dL_rowAt_2 : decode cL_rowAt 2 = .ok (.aload_n 0, 1) := by decide +kernel
theorem dL_rowAt_3 : decode cL_rowAt 3 = .ok (.iload_n 1, 1) := by decide +kernel
theorem dL_rowAt_4 : decode cL_rowAt 4 = .ok (.iload_n 2, 1) := by decide +kernel
theorem dL_rowAt_5 : decode cL_rowAt 5 = .ok (.invokevirtual 149, 3) := by decide +kernel
theorem dL_rowAt_8 : decode cL_rowAt 8 = .ok (.i2l, 1) := by decide +kernel
theorem dL_rowAt_9 : decode cL_rowAt 9 = .ok (.lastore, 1) := by decide +kernel
theorem dL_rowAt_10 : decode cL_rowAt 10 = .ok (.goto 7, 3) := by decide +kernel
theorem dL_rowAt_13 : decode cL_rowAt 13 = .ok (.astore 4, 2) := by decide +kernel
theorem dL_rowAt_15 : decode cL_rowAt 15 = .ok (.iconst 1, 1) := by decide +kernel
theorem dL_rowAt_16 : decode cL_rowAt 16 = .ok (.ireturn, 1) := by decide +kernel
theorem dL_rowAt_17 : decode cL_rowAt 17 = .ok (.iconst 0, 1) := by decide +kernel
theorem dL_rowAt_18 : decode cL_rowAt 18 = .ok (.ireturn, 1) := by decide +kernel
theorem dL_rowPlace_0 : decode cL_rowPlace 0 = .ok (.aload_n 3, 1) := by decide +kernel
theorem dL_rowPlace_1 : decode cL_rowPlace 1 = .ok (.iconst 0, 1) := by decide +kernel
theorem dL_rowPlace_2 : decode cL_rowPlace 2 = .ok (.aload_n 0, 1) := by decide +kernel
theorem dL_rowPlace_3 : decode cL_rowPlace 3 = .ok (.iload_n 1, 1) := by decide +kernel
theorem dL_rowPlace_4 : decode cL_rowPlace 4 = .ok (.iload_n 2, 1) := by decide +kernel
theorem dL_rowPlace_5 : decode cL_rowPlace 5 = .ok (.invokevirtual 152, 3) := by decide +kernel
theorem dL_rowPlace_8 : decode cL_rowPlace 8 = .ok (.i2l, 1) := by decide +kernel
theorem dL_rowPlace_9 : decode cL_rowPlace 9 = .ok (.lastore, 1) := by decide +kernel
theorem dL_rowPlace_10 : decode cL_rowPlace 10 = .ok (.goto 7, 3) := by decide +kernel
theorem dL_rowPlace_13 : decode cL_rowPlace 13 = .ok (.astore 4, 2) := by decide +kernel
theorem dL_rowPlace_15 : decode cL_rowPlace 15 = .ok (.iconst 1, 1) := by decide +kernel
theorem dL_rowPlace_16 : decode cL_rowPlace 16 = .ok (.ireturn, 1) := by decide +kernel
theorem dL_rowPlace_17 : decode cL_rowPlace 17 = .ok (.iconst 0, 1) := by decide +kernel
theorem dL_rowPlace_18 : decode cL_rowPlace 18 = .ok (.ireturn, 1) := by decide +kernel
theorem dL_rows_0 : decode cL_rows 0 = .ok (.aload_n 2, 1) := by decide +kernel
theorem dL_rows_1 : decode cL_rows 1 = .ok (.iconst 0, 1) := by decide +kernel
theorem dL_rows_2 : decode cL_rows 2 = .ok (.aload_n 0, 1) := by decide +kernel
theorem dL_rows_3 : decode cL_rows 3 = .ok (.iload_n 1, 1) := by decide +kernel
theorem dL_rows_4 : decode cL_rows 4 = .ok (.invokevirtual 146, 3) := by decide +kernel
theorem dL_rows_7 : decode cL_rows 7 = .ok (.i2l, 1) := by decide +kernel
theorem dL_rows_8 : decode cL_rows 8 = .ok (.lastore, 1) := by decide +kernel
theorem dL_rows_9 : decode cL_rows 9 = .ok (.goto 6, 3) := by decide +kernel
theorem dL_rows_12 : decode cL_rows 12 = .ok (.astore_n 3, 1) := by decide +kernel
theorem dL_rows_13 : decode cL_rows 13 = .ok (.iconst 1, 1) := by decide +kernel
theorem dL_rows_14 : decode cL_rows 14 = .ok (.ireturn, 1) := by decide +kernel
theorem dL_rows_15 : decode cL_rows 15 = .ok (.iconst 0, 1) := by decide +kernel
theorem dL_rows_16 : decode cL_rows 16 = .ok (.ireturn, 1) := by decide +kernel
theorem dL_rowsAt_0 : decode cL_rowsAt 0 = .ok (.aload 4, 2) := by decide +kernel
theorem dL_rowsAt_2 : decode cL_rowsAt 2 = .ok (.iconst 0, 1) := by decide +kernel
theorem dL_rowsAt_3 : decode cL_rowsAt 3 = .ok (.aload_n 0, 1) := by decide +kernel
theorem dL_rowsAt_4 : decode cL_rowsAt 4 = .ok (.iload_n 1, 1) := by decide +kernel
theorem dL_rowsAt_5 : decode cL_rowsAt 5 = .ok (.iload_n 2, 1) := by decide +kernel
theorem dL_rowsAt_6 : decode cL_rowsAt 6 = .ok (.iload_n 3, 1) := by decide +kernel
theorem dL_rowsAt_7 : decode cL_rowsAt 7 = .ok (.invokevirtual 161, 3) := by decide +kernel
theorem dL_rowsAt_10 : decode cL_rowsAt 10 = .ok (.i2l, 1) := by decide +kernel
theorem dL_rowsAt_11 : decode cL_rowsAt 11 = .ok (.lastore, 1) := by decide +kernel
theorem dL_rowsAt_12 : decode cL_rowsAt 12 = .ok (.goto 7, 3) := by decide +kernel
theorem dL_rowsAt_15 : decode cL_rowsAt 15 = .ok (.astore 5, 2) := by decide +kernel
theorem dL_rowsAt_17 : decode cL_rowsAt 17 = .ok (.iconst 1, 1) := by decide +kernel
theorem dL_rowsAt_18 : decode cL_rowsAt 18 = .ok (.ireturn, 1) := by decide +kernel
theorem dL_rowsAt_19 : decode cL_rowsAt 19 = .ok (.iconst 0, 1) := by decide +kernel
theorem dL_rowsAt_20 : decode cL_rowsAt 20 = .ok (.ireturn, 1) := by decide +kernel
theorem dL_rowsWith_0 : decode cL_rowsWith 0 = .ok (.aload 4, 2) := by decide +kernel
theorem dL_rowsWith_2 : decode cL_rowsWith 2 = .ok (.iconst 0, 1) := by decide +kernel
theorem dL_rowsWith_3 : decode cL_rowsWith 3 = .ok (.aload_n 0, 1) := by decide +kernel
theorem dL_rowsWith_4 : decode cL_rowsWith 4 = .ok (.iload_n 1, 1) := by decide +kernel
theorem dL_rowsWith_5 : decode cL_rowsWith 5 = .ok (.iload_n 2, 1) := by decide +kernel
theorem dL_rowsWith_6 : decode cL_rowsWith 6 = .ok (.iload_n 3, 1) := by decide +kernel
theorem dL_rowsWith_7 : decode cL_rowsWith 7 = .ok (.invokevirtual 158, 3) := by decide +kernel
theorem dL_rowsWith_10 : decode cL_rowsWith 10 = .ok (.i2l, 1) := by decide +kernel
theorem dL_rowsWith_11 : decode cL_rowsWith 11 = .ok (.lastore, 1) := by decide +kernel
theorem dL_rowsWith_12 : decode cL_rowsWith 12 = .ok (.goto 7, 3) := by decide +kernel
theorem dL_rowsWith_15 : decode cL_rowsWith 15 = .ok (.astore 5, 2) := by decide +kernel
theorem dL_rowsWith_17 : decode cL_rowsWith 17 = .ok (.iconst 1, 1) := by decide +kernel
theorem dL_rowsWith_18 : decode cL_rowsWith 18 = .ok (.ireturn, 1) := by decide +kernel
theorem dL_rowsWith_19 : decode cL_rowsWith 19 = .ok (.iconst 0, 1) := by decide +kernel
theorem dL_rowsWith_20 : decode cL_rowsWith 20 = .ok (.ireturn, 1) := by decide +kernel
theorem dL_setAt_0 : decode cL_setAt 0 = .ok (.aload_n 3, 1) := by decide +kernel
theorem dL_setAt_1 : decode cL_setAt 1 = .ok (.iconst 0, 1) := by decide +kernel
theorem dL_setAt_2 : decode cL_setAt 2 = .ok (.aload_n 0, 1) := by decide +kernel
theorem dL_setAt_3 : decode cL_setAt 3 = .ok (.iload_n 1, 1) := by decide +kernel
theorem dL_setAt_4 : decode cL_setAt 4 = .ok (.iload_n 2, 1) := by decide +kernel
theorem dL_setAt_5 : decode cL_setAt 5 = .ok (.invokevirtual 124, 3) := by decide +kernel
theorem dL_setAt_8 : decode cL_setAt 8 = .ok (.i2l, 1) := by decide +kernel
theorem dL_setAt_9 : decode cL_setAt 9 = .ok (.lastore, 1) := by decide +kernel
theorem dL_setAt_10 : decode cL_setAt 10 = .ok (.goto 7, 3) := by decide +kernel
theorem dL_setAt_13 : decode cL_setAt 13 = .ok (.astore 4, 2) := by decide +kernel
theorem dL_setAt_15 : decode cL_setAt 15 = .ok (.iconst 1, 1) := by decide +kernel
theorem dL_setAt_16 : decode cL_setAt 16 = .ok (.ireturn, 1) := by decide +kernel
theorem dL_setAt_17 : decode cL_setAt 17 = .ok (.iconst 0, 1) := by decide +kernel
theorem dL_setAt_18 : decode cL_setAt 18 = .ok (.ireturn, 1) := by decide +kernel
theorem dL_setValue_0 : decode cL_setValue 0 = .ok (.aload 4, 2) := by decide +kernel
theorem dL_setValue_2 : decode cL_setValue 2 = .ok (.iconst 0, 1) := by decide +kernel
theorem dL_setValue_3 : decode cL_setValue 3 = .ok (.aload_n 0, 1) := by decide +kernel
theorem dL_setValue_4 : decode cL_setValue 4 = .ok (.iload_n 1, 1) := by decide +kernel
theorem dL_setValue_5 : decode cL_setValue 5 = .ok (.iload_n 2, 1) := by decide +kernel
theorem dL_setValue_6 : decode cL_setValue 6 = .ok (.iload_n 3, 1) := by decide +kernel
theorem dL_setValue_7 : decode cL_setValue 7 = .ok (.invokevirtual 31, 3) := by decide +kernel
theorem dL_setValue_10 : decode cL_setValue 10 = .ok (.i2l, 1) := by decide +kernel
theorem dL_setValue_11 : decode cL_setValue 11 = .ok (.lastore, 1) := by decide +kernel
theorem dL_setValue_12 : decode cL_setValue 12 = .ok (.goto 11, 3) := by decide +kernel
theorem dL_setValue_15 : decode cL_setValue 15 = .ok (.astore 5, 2) := by decide +kernel
theorem dL_setValue_17 : decode cL_setValue 17 = .ok (.iconst 1, 1) := by decide +kernel
theorem dL_setValue_18 : decode cL_setValue 18 = .ok (.ireturn, 1) := by decide +kernel
theorem dL_setValue_19 : decode cL_setValue 19 = .ok (.astore 5, 2) := by decide +kernel
theorem dL_setValue_21 : decode cL_setValue 21 = .ok (.iconst 2, 1) := by decide +kernel
theorem dL_setValue_22 : decode cL_setValue 22 = .ok (.ireturn, 1) := by decide +kernel
theorem dL_setValue_23 : decode cL_setValue 23 = .ok (.iconst 0, 1) := by decide +kernel
theorem dL_setValue_24 : decode cL_setValue 24 = .ok (.ireturn, 1) := by decide +kernel
theorem dL_sets_0 : decode cL_sets 0 = .ok (.aload_n 2, 1) := by decide +kernel
theorem dL_sets_1 : decode cL_sets 1 = .ok (.iconst 0, 1) := by decide +kernel
theorem dL_sets_2 : decode cL_sets 2 = .ok (.aload_n 0, 1) := by decide +kernel
theorem dL_sets_3 : decode cL_sets 3 = .ok (.iload_n 1, 1) := by decide +kernel
theorem dL_sets_4 : decode cL_sets 4 = .ok (.invokevirtual 118, 3) := by decide +kernel
theorem dL_sets_7 : decode cL_sets 7 = .ok (.i2l, 1) := by decide +kernel
theorem dL_sets_8 : decode cL_sets 8 = .ok (.lastore, 1) := by decide +kernel
theorem dL_sets_9 : decode cL_sets 9 = .ok (.goto 6, 3) := by decide +kernel
theorem dL_sets_12 : decode cL_sets 12 = .ok (.astore_n 3, 1) := by decide +kernel
theorem dL_sets_13 : decode cL_sets 13 = .ok (.iconst 1, 1) := by decide +kernel
theorem dL_sets_14 : decode cL_sets 14 = .ok (.ireturn, 1) := by decide +kernel
theorem dL_sets_15 : decode cL_sets 15 = .ok (.iconst 0, 1) := by decide +kernel
theorem dL_sets_16 : decode cL_sets 16 = .ok (.ireturn, 1) := by decide +kernel
theorem dL_setsOf_0 : decode cL_setsOf 0 = .ok (.aload_n 3, 1) := by decide +kernel
theorem dL_setsOf_1 : decode cL_setsOf 1 = .ok (.iconst 0, 1) := by decide +kernel
theorem dL_setsOf_2 : decode cL_setsOf 2 = .ok (.aload_n 0, 1) := by decide +kernel
theorem dL_setsOf_3 : decode cL_setsOf 3 = .ok (.iload_n 1, 1) := by decide +kernel
theorem dL_setsOf_4 : decode cL_setsOf 4 = .ok (.iload_n 2, 1) := by decide +kernel
theorem dL_setsOf_5 : decode cL_setsOf 5 = .ok (.invokevirtual 121, 3) := by decide +kernel
theorem dL_setsOf_8 : decode cL_setsOf 8 = .ok (.i2l, 1) := by decide +kernel
theorem dL_setsOf_9 : decode cL_setsOf 9 = .ok (.lastore, 1) := by decide +kernel
theorem dL_setsOf_10 : decode cL_setsOf 10 = .ok (.goto 7, 3) := by decide +kernel
theorem dL_setsOf_13 : decode cL_setsOf 13 = .ok (.astore 4, 2) := by decide +kernel
theorem dL_setsOf_15 : decode cL_setsOf 15 = .ok (.iconst 1, 1) := by decide +kernel
theorem dL_setsOf_16 : decode cL_setsOf 16 = .ok (.ireturn, 1) := by decide +kernel
theorem dL_setsOf_17 : decode cL_setsOf 17 = .ok (.iconst 0, 1) := by decide +kernel
theorem dL_setsOf_18 : decode cL_setsOf 18 = .ok (.ireturn, 1) := by decide +kernel
theorem dL_share_0 : decode cL_share 0 = .ok (.aload 4, 2) := by decide +kernel
theorem dL_share_2 : decode cL_share 2 = .ok (.iconst 0, 1) := by decide +kernel
theorem dL_share_3 : decode cL_share 3 = .ok (.aload_n 0, 1) := by decide +kernel
theorem dL_share_4 : decode cL_share 4 = .ok (.iload_n 1, 1) := by decide +kernel
theorem dL_share_5 : decode cL_share 5 = .ok (.iload_n 2, 1) := by decide +kernel
theorem dL_share_6 : decode cL_share 6 = .ok (.iload_n 3, 1) := by decide +kernel
theorem dL_share_7 : decode cL_share 7 = .ok (.invokevirtual 168, 3) := by decide +kernel
theorem dL_share_10 : decode cL_share 10 = .ok (.f2d, 1) := by decide +kernel
theorem dL_share_11 : decode cL_share 11 = .ok (.dastore, 1) := by decide +kernel
theorem dL_share_12 : decode cL_share 12 = .ok (.goto 7, 3) := by decide +kernel
theorem dL_share_15 : decode cL_share 15 = .ok (.astore 5, 2) := by decide +kernel
theorem dL_share_17 : decode cL_share 17 = .ok (.iconst 1, 1) := by decide +kernel
theorem dL_share_18 : decode cL_share 18 = .ok (.ireturn, 1) := by decide +kernel
theorem dL_share_19 : decode cL_share 19 = .ok (.iconst 0, 1) := by decide +kernel
theorem dL_share_20 : decode cL_share 20 = .ok (.ireturn, 1) := by decide +kernel
theorem dL_shared_0 : decode cL_shared 0 = .ok (.aload_n 3, 1) := by decide +kernel
theorem dL_shared_1 : decode cL_shared 1 = .ok (.iconst 0, 1) := by decide +kernel
theorem dL_shared_2 : decode cL_shared 2 = .ok (.aload_n 0, 1) := by decide +kernel
theorem dL_shared_3 : decode cL_shared 3 = .ok (.iload_n 1, 1) := by decide +kernel
theorem dL_shared_4 : decode cL_shared 4 = .ok (.iload_n 2, 1) := by decide +kernel
theorem dL_shared_5 : decode cL_shared 5 = .ok (.invokevirtual 143, 3) := by decide +kernel
theorem dL_shared_8 : decode cL_shared 8 = .ok (.i2l, 1) := by decide +kernel
theorem dL_shared_9 : decode cL_shared 9 = .ok (.lastore, 1) := by decide +kernel
theorem dL_shared_10 : decode cL_shared 10 = .ok (.goto 7, 3) := by decide +kernel
theorem dL_shared_13 : decode cL_shared 13 = .ok (.astore 4, 2) := by decide +kernel
theorem dL_shared_15 : decode cL_shared 15 = .ok (.iconst 1, 1) := by decide +kernel
theorem dL_shared_16 : decode cL_shared 16 = .ok (.ireturn, 1) := by decide +kernel
theorem dL_shared_17 : decode cL_shared 17 = .ok (.iconst 0, 1) := by decide +kernel
theorem dL_shared_18 : decode cL_shared 18 = .ok (.ireturn, 1) := by decide +kernel
theorem dL_sign_0 : decode cL_sign 0 = .ok (.aload 4, 2) := by decide +kernel
theorem dL_sign_2 : decode cL_sign 2 = .ok (.iconst 0, 1) := by decide +kernel
theorem dL_sign_3 : decode cL_sign 3 = .ok (.aload_n 0, 1) := by decide +kernel
theorem dL_sign_4 : decode cL_sign 4 = .ok (.iload_n 1, 1) := by decide +kernel
theorem dL_sign_5 : decode cL_sign 5 = .ok (.iload_n 2, 1) := by decide +kernel
theorem dL_sign_6 : decode cL_sign 6 = .ok (.iload_n 3, 1) := by decide +kernel
theorem dL_sign_7 : decode cL_sign 7 = .ok (.invokevirtual 69, 3) := by decide +kernel
theorem dL_sign_10 : decode cL_sign 10 = .ok (.i2l, 1) := by decide +kernel
theorem dL_sign_11 : decode cL_sign 11 = .ok (.lastore, 1) := by decide +kernel
theorem dL_sign_12 : decode cL_sign 12 = .ok (.goto 7, 3) := by decide +kernel
theorem dL_sign_15 : decode cL_sign 15 = .ok (.astore 5, 2) := by decide +kernel
theorem dL_sign_17 : decode cL_sign 17 = .ok (.iconst 1, 1) := by decide +kernel
theorem dL_sign_18 : decode cL_sign 18 = .ok (.ireturn, 1) := by decide +kernel
theorem dL_sign_19 : decode cL_sign 19 = .ok (.iconst 0, 1) := by decide +kernel
theorem dL_sign_20 : decode cL_sign 20 = .ok (.ireturn, 1) := by decide +kernel
theorem dL_straighten_0 : decode cL_straighten 0 = .ok (.aload_n 3, 1) := by decide +kernel
theorem dL_straighten_1 : decode cL_straighten 1 = .ok (.iconst 0, 1) := by decide +kernel
theorem dL_straighten_2 : decode cL_straighten 2 = .ok (.aload_n 0, 1) := by decide +kernel
theorem dL_straighten_3 : decode cL_straighten 3 = .ok (.iload_n 1, 1) := by decide +kernel
theorem dL_straighten_4 : decode cL_straighten 4 = .ok (.iload_n 2, 1) := by decide +kernel
theorem dL_straighten_5 : decode cL_straighten 5 = .ok (.invokevirtual 41, 3) := by decide +kernel
theorem dL_straighten_8 : decode cL_straighten 8 = .ok (.i2l, 1) := by decide +kernel
theorem dL_straighten_9 : decode cL_straighten 9 = .ok (.lastore, 1) := by decide +kernel
theorem dL_straighten_10 : decode cL_straighten 10 = .ok (.goto 7, 3) := by decide +kernel
theorem dL_straighten_13 : decode cL_straighten 13 = .ok (.astore 4, 2) := by decide +kernel
theorem dL_straighten_15 : decode cL_straighten 15 = .ok (.iconst 1, 1) := by decide +kernel
theorem dL_straighten_16 : decode cL_straighten 16 = .ok (.ireturn, 1) := by decide +kernel
theorem dL_straighten_17 : decode cL_straighten 17 = .ok (.iconst 0, 1) := by decide +kernel
theorem dL_straighten_18 : decode cL_straighten 18 = .ok (.ireturn, 1) := by decide +kernel
theorem dL_sum_0 : decode cL_sum 0 = .ok (.aload_n 3, 1) := by decide +kernel
theorem dL_sum_1 : decode cL_sum 1 = .ok (.iconst 0, 1) := by decide +kernel
theorem dL_sum_2 : decode cL_sum 2 = .ok (.aload_n 0, 1) := by decide +kernel
theorem dL_sum_3 : decode cL_sum 3 = .ok (.iload_n 1, 1) := by decide +kernel
theorem dL_sum_4 : decode cL_sum 4 = .ok (.iload_n 2, 1) := by decide +kernel
theorem dL_sum_5 : decode cL_sum 5 = .ok (.invokevirtual 172, 3) := by decide +kernel
theorem dL_sum_8 : decode cL_sum 8 = .ok (.i2l, 1) := by decide +kernel
theorem dL_sum_9 : decode cL_sum 9 = .ok (.lastore, 1) := by decide +kernel
theorem dL_sum_10 : decode cL_sum 10 = .ok (.goto 7, 3) := by decide +kernel
theorem dL_sum_13 : decode cL_sum 13 = .ok (.astore 4, 2) := by decide +kernel
theorem dL_sum_15 : decode cL_sum 15 = .ok (.iconst 1, 1) := by decide +kernel
theorem dL_sum_16 : decode cL_sum 16 = .ok (.ireturn, 1) := by decide +kernel
theorem dL_sum_17 : decode cL_sum 17 = .ok (.iconst 0, 1) := by decide +kernel
theorem dL_sum_18 : decode cL_sum 18 = .ok (.ireturn, 1) := by decide +kernel
theorem dL_things_0 : decode cL_things 0 = .ok (.aload_n 2, 1) := by decide +kernel
theorem dL_things_1 : decode cL_things 1 = .ok (.iconst 0, 1) := by decide +kernel
theorem dL_things_2 : decode cL_things 2 = .ok (.aload_n 0, 1) := by decide +kernel
theorem dL_things_3 : decode cL_things 3 = .ok (.iload_n 1, 1) := by decide +kernel
theorem dL_things_4 : decode cL_things 4 = .ok (.invokevirtual 60, 3) := by decide +kernel
theorem dL_things_7 : decode cL_things 7 = .ok (.i2l, 1) := by decide +kernel
theorem dL_things_8 : decode cL_things 8 = .ok (.lastore, 1) := by decide +kernel
theorem dL_things_9 : decode cL_things 9 = .ok (.goto 6, 3) := by decide +kernel
theorem dL_things_12 : decode cL_things 12 = .ok (.astore_n 3, 1) := by decide +kernel
theorem dL_things_13 : decode cL_things 13 = .ok (.iconst 1, 1) := by decide +kernel
theorem dL_things_14 : decode cL_things 14 = .ok (.ireturn, 1) := by decide +kernel
theorem dL_things_15 : decode cL_things 15 = .ok (.iconst 0, 1) := by decide +kernel
theorem dL_things_16 : decode cL_things 16 = .ok (.ireturn, 1) := by decide +kernel
theorem dL_tops_0 : decode cL_tops 0 = .ok (.aload_n 3, 1) := by decide +kernel
theorem dL_tops_1 : decode cL_tops 1 = .ok (.iconst 0, 1) := by decide +kernel
theorem dL_tops_2 : decode cL_tops 2 = .ok (.aload_n 0, 1) := by decide +kernel
theorem dL_tops_3 : decode cL_tops 3 = .ok (.iload_n 1, 1) := by decide +kernel
theorem dL_tops_4 : decode cL_tops 4 = .ok (.iload_n 2, 1) := by decide +kernel
theorem dL_tops_5 : decode cL_tops 5 = .ok (.invokevirtual 140, 3) := by decide +kernel
theorem dL_tops_8 : decode cL_tops 8 = .ok (.i2l, 1) := by decide +kernel
theorem dL_tops_9 : decode cL_tops 9 = .ok (.lastore, 1) := by decide +kernel
theorem dL_tops_10 : decode cL_tops 10 = .ok (.goto 11, 3) := by decide +kernel
theorem dL_tops_13 : decode cL_tops 13 = .ok (.astore 4, 2) := by decide +kernel
theorem dL_tops_15 : decode cL_tops 15 = .ok (.iconst 1, 1) := by decide +kernel
theorem dL_tops_16 : decode cL_tops 16 = .ok (.ireturn, 1) := by decide +kernel
theorem dL_tops_17 : decode cL_tops 17 = .ok (.astore 4, 2) := by decide +kernel
theorem dL_tops_19 : decode cL_tops 19 = .ok (.iconst 2, 1) := by decide +kernel
theorem dL_tops_20 : decode cL_tops 20 = .ok (.ireturn, 1) := by decide +kernel
theorem dL_tops_21 : decode cL_tops 21 = .ok (.iconst 0, 1) := by decide +kernel
theorem dL_tops_22 : decode cL_tops 22 = .ok (.ireturn, 1) := by decide +kernel
theorem dL_turn_0 : decode cL_turn 0 = .ok (.aload_n 2, 1) := by decide +kernel
theorem dL_turn_1 : decode cL_turn 1 = .ok (.iconst 0, 1) := by decide +kernel
theorem dL_turn_2 : decode cL_turn 2 = .ok (.aload_n 0, 1) := by decide +kernel
theorem dL_turn_3 : decode cL_turn 3 = .ok (.iload_n 1, 1) := by decide +kernel
theorem dL_turn_4 : decode cL_turn 4 = .ok (.invokevirtual 44, 3) := by decide +kernel
theorem dL_turn_7 : decode cL_turn 7 = .ok (.i2l, 1) := by decide +kernel
theorem dL_turn_8 : decode cL_turn 8 = .ok (.lastore, 1) := by decide +kernel
theorem dL_turn_9 : decode cL_turn 9 = .ok (.goto 6, 3) := by decide +kernel
theorem dL_turn_12 : decode cL_turn 12 = .ok (.astore_n 3, 1) := by decide +kernel
theorem dL_turn_13 : decode cL_turn 13 = .ok (.iconst 1, 1) := by decide +kernel
theorem dL_turn_14 : decode cL_turn 14 = .ok (.ireturn, 1) := by decide +kernel
theorem dL_turn_15 : decode cL_turn 15 = .ok (.iconst 0, 1) := by decide +kernel
theorem dL_turn_16 : decode cL_turn 16 = .ok (.ireturn, 1) := by decide +kernel
theorem dL_undone_0 : decode cL_undone 0 = .ok (.aload_n 3, 1) := by decide +kernel
theorem dL_undone_1 : decode cL_undone 1 = .ok (.iconst 0, 1) := by decide +kernel
theorem dL_undone_2 : decode cL_undone 2 = .ok (.aload_n 0, 1) := by decide +kernel
theorem dL_undone_3 : decode cL_undone 3 = .ok (.iload_n 1, 1) := by decide +kernel
theorem dL_undone_4 : decode cL_undone 4 = .ok (.iload_n 2, 1) := by decide +kernel
theorem dL_undone_5 : decode cL_undone 5 = .ok (.invokevirtual 178, 3) := by decide +kernel
theorem dL_undone_8 : decode cL_undone 8 = .ok (.i2l, 1) := by decide +kernel
theorem dL_undone_9 : decode cL_undone 9 = .ok (.lastore, 1) := by decide +kernel
theorem dL_undone_10 : decode cL_undone 10 = .ok (.goto 7, 3) := by decide +kernel
theorem dL_undone_13 : decode cL_undone 13 = .ok (.astore 4, 2) := by decide +kernel
theorem dL_undone_15 : decode cL_undone 15 = .ok (.iconst 1, 1) := by decide +kernel
theorem dL_undone_16 : decode cL_undone 16 = .ok (.ireturn, 1) := by decide +kernel
theorem dL_undone_17 : decode cL_undone 17 = .ok (.iconst 0, 1) := by decide +kernel
theorem dL_undone_18 : decode cL_undone 18 = .ok (.ireturn, 1) := by decide +kernel
theorem dL_upper_0 : decode cL_upper 0 = .ok (.aload_n 3, 1) := by decide +kernel
theorem dL_upper_1 : decode cL_upper 1 = .ok (.iconst 0, 1) := by decide +kernel
theorem dL_upper_2 : decode cL_upper 2 = .ok (.aload_n 0, 1) := by decide +kernel
theorem dL_upper_3 : decode cL_upper 3 = .ok (.iload_n 1, 1) := by decide +kernel
theorem dL_upper_4 : decode cL_upper 4 = .ok (.iload_n 2, 1) := by decide +kernel
theorem dL_upper_5 : decode cL_upper 5 = .ok (.invokevirtual 80, 3) := by decide +kernel
theorem dL_upper_8 : decode cL_upper 8 = .ok (.i2l, 1) := by decide +kernel
theorem dL_upper_9 : decode cL_upper 9 = .ok (.lastore, 1) := by decide +kernel
theorem dL_upper_10 : decode cL_upper 10 = .ok (.goto 7, 3) := by decide +kernel
theorem dL_upper_13 : decode cL_upper 13 = .ok (.astore 4, 2) := by decide +kernel
theorem dL_upper_15 : decode cL_upper 15 = .ok (.iconst 1, 1) := by decide +kernel
theorem dL_upper_16 : decode cL_upper 16 = .ok (.ireturn, 1) := by decide +kernel
theorem dL_upper_17 : decode cL_upper 17 = .ok (.iconst 0, 1) := by decide +kernel
theorem dL_upper_18 : decode cL_upper 18 = .ok (.ireturn, 1) := by decide +kernel
theorem dL_value_0 : decode cL_value 0 = .ok (.aload_n 3, 1) := by decide +kernel
theorem dL_value_1 : decode cL_value 1 = .ok (.iconst 0, 1) := by decide +kernel
theorem dL_value_2 : decode cL_value 2 = .ok (.aload_n 0, 1) := by decide +kernel
theorem dL_value_3 : decode cL_value 3 = .ok (.iload_n 1, 1) := by decide +kernel
theorem dL_value_4 : decode cL_value 4 = .ok (.iload_n 2, 1) := by decide +kernel
theorem dL_value_5 : decode cL_value 5 = .ok (.invokevirtual 87, 3) := by decide +kernel
theorem dL_value_8 : decode cL_value 8 = .ok (.i2l, 1) := by decide +kernel
theorem dL_value_9 : decode cL_value 9 = .ok (.lastore, 1) := by decide +kernel
theorem dL_value_10 : decode cL_value 10 = .ok (.goto 7, 3) := by decide +kernel
theorem dL_value_13 : decode cL_value 13 = .ok (.astore 4, 2) := by decide +kernel
theorem dL_value_15 : decode cL_value 15 = .ok (.iconst 1, 1) := by decide +kernel
theorem dL_value_16 : decode cL_value 16 = .ok (.ireturn, 1) := by decide +kernel
theorem dL_value_17 : decode cL_value 17 = .ok (.iconst 0, 1) := by decide +kernel
theorem dL_value_18 : decode cL_value 18 = .ok (.ireturn, 1) := by decide +kernel
theorem dL_widest_0 : decode cL_widest 0 = .ok (.aload_n 2, 1) := by decide +kernel
theorem dL_widest_1 : decode cL_widest 1 = .ok (.iconst 0, 1) := by decide +kernel
theorem dL_widest_2 : decode cL_widest 2 = .ok (.aload_n 0, 1) := by decide +kernel
theorem dL_widest_3 : decode cL_widest 3 = .ok (.iload_n 1, 1) := by decide +kernel
theorem dL_widest_4 : decode cL_widest 4 = .ok (.invokevirtual 106, 3) := by decide +kernel
theorem dL_widest_7 : decode cL_widest 7 = .ok (.i2l, 1) := by decide +kernel
theorem dL_widest_8 : decode cL_widest 8 = .ok (.lastore, 1) := by decide +kernel
theorem dL_widest_9 : decode cL_widest 9 = .ok (.goto 6, 3) := by decide +kernel
theorem dL_widest_12 : decode cL_widest 12 = .ok (.astore_n 3, 1) := by decide +kernel
theorem dL_widest_13 : decode cL_widest 13 = .ok (.iconst 1, 1) := by decide +kernel
theorem dL_widest_14 : decode cL_widest 14 = .ok (.ireturn, 1) := by decide +kernel
theorem dL_widest_15 : decode cL_widest 15 = .ok (.iconst 0, 1) := by decide +kernel
theorem dL_widest_16 : decode cL_widest 16 = .ok (.ireturn, 1) := by decide +kernel
def f_L_above (M : Mem) (x1 : Int32) (x2 : Int32) (x3 : Int32) : Option (Int32 × Mem × Option Int64) := bd (f_X6_above M x1 x2 x3) (fun z7 => lx z7 (fun E => if E = eI then some (1, z7.2, none) else if E = eS then some (2, z7.2, none) else none) (fun v7 => some (0, z7.2, some v7.toInt64)))
def rm_L_above : Room := { frames := 9, cells := 4, slots := 24, locals := 171 }
def f_L_add (M : Mem) (x1 : Int32) (x2 : Int32) : Option (Int32 × Mem × Option Int64) := bd (f_X6_add M x1 x2) (fun z5 => lx z5 (fun E => if E = eI then some (1, z5.2, none) else if E = eA then some (2, z5.2, none) else if E = eS then some (3, z5.2, none) else none) (fun v5 => some (0, z5.2, some v5.toInt64)))
def rm_L_add : Room := { frames := 8, cells := 3, slots := 18, locals := 144 }
def f_L_aparts (M : Mem) (x1 : Int32) : Option (Int32 × Mem × Option Int64) := bd (f_X6_aparts M x1) (fun z4 => lx z4 (fun E => if E = eI then some (1, z4.2, none) else none) (fun v4 => some (0, z4.2, some v4.toInt64)))
def rm_L_aparts : Room := { frames := 8, cells := 1, slots := 6, locals := 142 }
def f_L_areSound (M : Mem) (x1 : Int32) (x2 : Int32) : Option (Int32 × Mem × Option Int64) := bd (f_X6_areSound M x1 x2) (fun z5 => lx z5 (fun E => if E = eI then some (1, z5.2, none) else none) (fun v5 => if v5 = 0 then some (0, z5.2, some 0) else some (0, z5.2, some 1)))
def rm_L_areSound : Room := { frames := 8, cells := 2, slots := 12, locals := 156 }
def f_L_beside (M : Mem) (x1 : Int32) (x2 : Int32) (x3 : Int32) : Option (Int32 × Mem × Option Int64) := bd (f_X6_beside M x1 x2 x3) (fun z7 => lx z7 (fun E => if E = eI then some (1, z7.2, none) else if E = eS then some (2, z7.2, none) else none) (fun v7 => some (0, z7.2, some v7.toInt64)))
def rm_L_beside : Room := { frames := 9, cells := 4, slots := 24, locals := 171 }
def f_L_chain (M : Mem) (x1 : Int32) (x2 : Int32) : Option (Int32 × Mem × Option Int64) := bd (f_X6_chain M x1 x2) (fun z5 => lx z5 (fun E => if E = eI then some (1, z5.2, none) else if E = eA then some (2, z5.2, none) else none) (fun v5 => some (0, z5.2, some v5.toInt64)))
def rm_L_chain : Room := { frames := 8, cells := 2, slots := 12, locals := 144 }
def f_L_closed (M : Mem) (x1 : Int32) (x2 : Int32) : Option (Int32 × Mem × Option Int64) := bd (f_X6_closed M x1 x2) (fun z5 => lx z5 (fun E => if E = eI then some (1, z5.2, none) else if E = eA then some (2, z5.2, none) else none) (fun v5 => some (0, z5.2, some v5.toInt64)))
def rm_L_closed : Room := { frames := 9, cells := 2, slots := 12, locals := 166 }
def f_L_copy (M : Mem) (x1 : Int32) (x2 : Int32) : Option (Int32 × Mem × Option Int64) := bd (f_X6_copy M x1 x2) (fun z5 => lx z5 (fun E => if E = eI then some (1, z5.2, none) else none) (fun v5 => some (0, z5.2, some v5.toInt64)))
def rm_L_copy : Room := { frames := 8, cells := 2, slots := 12, locals := 145 }
def f_L_drop (M : Mem) (x1 : Int32) (x2 : Int32) : Option (Int32 × Mem × Option Int64) := bd (f_X6_drop M x1 x2) (fun z5 => lx z5 (fun E => if E = eI then some (1, z5.2, none) else none) (fun v5 => some (0, z5.2, some v5.toInt64)))
def rm_L_drop : Room := { frames := 9, cells := 2, slots := 12, locals := 168 }
def f_L_ends (M : Mem) (x1 : Int32) (x2 : Int32) : Option (Int32 × Mem × Option Int64) := bd (f_X6_ends M x1 x2) (fun z5 => lx z5 (fun E => if E = eI then some (1, z5.2, none) else none) (fun v5 => some (0, z5.2, some v5.toInt64)))
def rm_L_ends : Room := { frames := 8, cells := 1, slots := 6, locals := 144 }
def f_L_fewestAparts (M : Mem) (x1 : Int32) : Option (Int32 × Mem × Option Int64) := bd (f_X6_fewestAparts M x1) (fun z4 => lx z4 (fun E => if E = eI then some (1, z4.2, none) else none) (fun v4 => some (0, z4.2, some v4.toInt64)))
def rm_L_fewestAparts : Room := { frames := 8, cells := 1, slots := 6, locals := 142 }
def f_L_fewestChains (M : Mem) (x1 : Int32) : Option (Int32 × Mem × Option Int64) := bd (f_X6_fewestChains M x1) (fun z4 => lx z4 (fun E => if E = eI then some (1, z4.2, none) else none) (fun v4 => some (0, z4.2, some v4.toInt64)))
def rm_L_fewestChains : Room := { frames := 17, cells := 1, slots := 6, locals := 425 }
def f_L_inner (M : Mem) (x1 : Int32) (x2 : Int32) : Option (Int32 × Mem × Option Int64) := bd (f_X6_inner M x1 x2) (fun z5 => lx z5 (fun E => if E = eI then some (1, z5.2, none) else if E = eA then some (2, z5.2, none) else none) (fun v5 => some (0, z5.2, some v5.toInt64)))
def rm_L_inner : Room := { frames := 9, cells := 2, slots := 12, locals := 166 }
def f_L_isApart (M : Mem) (x1 : Int32) (x2 : Int32) : Option (Int32 × Mem × Option Int64) := bd (f_X6_isApart M x1 x2) (fun z5 => lx z5 (fun E => if E = eI then some (1, z5.2, none) else if E = eA then some (2, z5.2, none) else none) (fun v5 => if v5 = 0 then some (0, z5.2, some 0) else some (0, z5.2, some 1)))
def rm_L_isApart : Room := { frames := 9, cells := 2, slots := 12, locals := 166 }
def f_L_isChain (M : Mem) (x1 : Int32) (x2 : Int32) : Option (Int32 × Mem × Option Int64) := bd (f_X6_isChain M x1 x2) (fun z5 => lx z5 (fun E => if E = eI then some (1, z5.2, none) else if E = eA then some (2, z5.2, none) else none) (fun v5 => if v5 = 0 then some (0, z5.2, some 0) else some (0, z5.2, some 1)))
def rm_L_isChain : Room := { frames := 9, cells := 2, slots := 12, locals := 166 }
def f_L_isNext (M : Mem) (x1 : Int32) (x2 : Int32) (x3 : Int32) : Option (Int32 × Mem × Option Int64) := bd (f_X6_isNext M x1 x2 x3) (fun z7 => lx z7 (fun E => if E = eI then some (1, z7.2, none) else none) (fun v7 => if v7 = 0 then some (0, z7.2, some 0) else some (0, z7.2, some 1)))
def rm_L_isNext : Room := { frames := 10, cells := 3, slots := 18, locals := 191 }
def f_L_isSame (M : Mem) (x1 : Int32) (x2 : Int32) : Option (Int32 × Mem × Option Int64) := bd (f_X6_isSame M x1 x2) (fun z5 => lx z5 (fun E => if E = eI then some (1, z5.2, none) else none) (fun v5 => if v5 = 0 then some (0, z5.2, some 0) else some (0, z5.2, some 1)))
def rm_L_isSame : Room := { frames := 8, cells := 2, slots := 12, locals := 145 }
def f_L_isSound (M : Mem) (x1 : Int32) : Option (Int32 × Mem × Option Int64) := bd (f_X6_isSound M x1) (fun z4 => lx z4 (fun E => if E = eI then some (1, z4.2, none) else none) (fun v4 => if v4 = 0 then some (0, z4.2, some 0) else some (0, z4.2, some 1)))
def rm_L_isSound : Room := { frames := 19, cells := 1, slots := 6, locals := 467 }
def f_L_keep (M : Mem) (x1 : Int32) (x2 : Int32) : Option (Int32 × Mem × Option Int64) := bd (f_X6_keep M x1 x2) (fun z5 => lx z5 (fun E => if E = eI then some (1, z5.2, none) else if E = eA then some (2, z5.2, none) else none) (fun v5 => some (0, z5.2, some v5.toInt64)))
def rm_L_keep : Room := { frames := 9, cells := 2, slots := 12, locals := 168 }
def f_L_lay (M : Mem) (x1 : Int32) (x2 : Int32) : Option (Int32 × Mem × Option Int64) := bd (f_X6_lay M x1 x2) (fun z5 => lx z5 (fun E => if E = eI then some (1, z5.2, none) else if E = eA then some (2, z5.2, none) else none) (fun v5 => some (0, z5.2, some v5.toInt64)))
def rm_L_lay : Room := { frames := 8, cells := 2, slots := 12, locals := 145 }
def f_L_level (M : Mem) (x1 : Int32) (x2 : Int32) : Option (Int32 × Mem × Option Int64) := bd (f_X6_level M x1 x2) (fun z5 => lx z5 (fun E => if E = eI then some (1, z5.2, none) else none) (fun v5 => some (0, z5.2, some v5.toInt64)))
def rm_L_level : Room := { frames := 9, cells := 2, slots := 12, locals := 167 }
def f_L_longest (M : Mem) (x1 : Int32) : Option (Int32 × Mem × Option Int64) := bd (f_X6_longest M x1) (fun z4 => lx z4 (fun E => if E = eI then some (1, z4.2, none) else none) (fun v4 => some (0, z4.2, some v4.toInt64)))
def rm_L_longest : Room := { frames := 8, cells := 1, slots := 6, locals := 143 }
def f_L_loose (M : Mem) (x1 : Int32) (x2 : Int32) (x3 : Int32) : Option (Int32 × Mem × Option Int64) := bd (f_X6_loose M x1 x2 x3) (fun z7 => lx z7 (fun E => if E = eI then some (1, z7.2, none) else none) (fun v7 => some (0, z7.2, some v7.toInt64)))
def rm_L_loose : Room := { frames := 10, cells := 3, slots := 18, locals := 192 }
def f_L_lower (M : Mem) (x1 : Int32) (x2 : Int32) : Option (Int32 × Mem × Option Int64) := bd (f_X6_lower M x1 x2) (fun z5 => lx z5 (fun E => if E = eI then some (1, z5.2, none) else none) (fun v5 => some (0, z5.2, some v5.toInt64)))
def rm_L_lower : Room := { frames := 9, cells := 2, slots := 12, locals := 166 }
def f_L_meanPlace (M : Mem) (x1 : Int32) (x2 : Int32) : Option (Int32 × Mem × Option UInt64) := bd (f_X6_meanPlace M x1 x2) (fun z5 => lx z5 (fun E => if E = eI then some (1, z5.2, none) else none) (fun v5 => some (0, z5.2, some v5)))
def rm_L_meanPlace : Room := { frames := 9, cells := 2, slots := 12, locals := 168 }
def f_L_meet (M : Mem) (x1 : Int32) (x2 : Int32) (x3 : Int32) : Option (Int32 × Mem × Option Int64) := bd (f_X6_meet M x1 x2 x3) (fun z7 => lx z7 (fun E => if E = eI then some (1, z7.2, none) else none) (fun v7 => some (0, z7.2, some v7.toInt64)))
def rm_L_meet : Room := { frames := 8, cells := 3, slots := 18, locals := 147 }
def f_L_near (M : Mem) (x1 : Int32) (x2 : Int32) (x3 : Int32) : Option (Int32 × Mem × Option Int64) := bd (f_X6_near M x1 x2 x3) (fun z7 => lx z7 (fun E => if E = eI then some (1, z7.2, none) else if E = eA then some (2, z7.2, none) else none) (fun v7 => some (0, z7.2, some v7.toInt64)))
def rm_L_near : Room := { frames := 9, cells := 3, slots := 18, locals := 168 }
def f_L_nextRow (M : Mem) (x1 : Int32) (x2 : Int32) : Option (Int32 × Mem × Option Int64) := bd (f_X6_nextRow M x1 x2) (fun z5 => lx z5 (fun E => if E = eI then some (1, z5.2, none) else if E = eA then some (2, z5.2, none) else none) (fun v5 => some (0, z5.2, some v5.toInt64)))
def rm_L_nextRow : Room := { frames := 8, cells := 3, slots := 18, locals := 147 }
def f_L_nexts (M : Mem) (x1 : Int32) : Option (Int32 × Mem × Option Int64) := bd (f_X6_nexts M x1) (fun z4 => lx z4 (fun E => if E = eI then some (1, z4.2, none) else none) (fun v4 => some (0, z4.2, some v4.toInt64)))
def rm_L_nexts : Room := { frames := 8, cells := 1, slots := 6, locals := 142 }
def f_L_number (M : Mem) (x1 : Int32) (x2 : Int32) (x3 : Int32) : Option (Int32 × Mem × Option Int64) := bd (f_X6_number M x1 x2 x3) (fun z7 => lx z7 (fun E => if E = eI then some (1, z7.2, none) else none) (fun v7 => some (0, z7.2, some v7.toInt64)))
def rm_L_number : Room := { frames := 10, cells := 3, slots := 18, locals := 191 }
def f_L_pairs (M : Mem) (x1 : Int32) : Option (Int32 × Mem × Option Int64) := bd (f_X6_pairs M x1) (fun z4 => lx z4 (fun E => if E = eI then some (1, z4.2, none) else none) (fun v4 => some (0, z4.2, some v4.toInt64)))
def rm_L_pairs : Room := { frames := 8, cells := 1, slots := 6, locals := 142 }
def f_L_placeOf (M : Mem) (x1 : Int32) (x2 : Int32) : Option (Int32 × Mem × Option Int64) := bd (f_X6_placeOf M x1 x2) (fun z5 => lx z5 (fun E => if E = eI then some (1, z5.2, none) else if E = eA then some (2, z5.2, none) else none) (fun v5 => some (0, z5.2, some v5.toInt64)))
def rm_L_placeOf : Room := { frames := 9, cells := 2, slots := 12, locals := 167 }
def f_L_put (M : Mem) (x1 : Int32) (x2 : Int32) (x3 : Int32) : Option (Int32 × Mem × Option Int64) := bd (f_X6_put M x1 x2 x3) (fun z7 => lx z7 (fun E => if E = eI then some (1, z7.2, none) else none) (fun v7 => some (0, z7.2, some v7.toInt64)))
def rm_L_put : Room := { frames := 10, cells := 3, slots := 18, locals := 191 }
def f_L_rowAt (M : Mem) (x1 : Int32) (x2 : Int32) : Option (Int32 × Mem × Option Int64) := bd (f_X6_rowAt M x1 x2) (fun z5 => lx z5 (fun E => if E = eI then some (1, z5.2, none) else none) (fun v5 => some (0, z5.2, some v5.toInt64)))
def rm_L_rowAt : Room := { frames := 8, cells := 2, slots := 12, locals := 146 }
def f_L_rowPlace (M : Mem) (x1 : Int32) (x2 : Int32) : Option (Int32 × Mem × Option Int64) := bd (f_X6_rowPlace M x1 x2) (fun z5 => lx z5 (fun E => if E = eI then some (1, z5.2, none) else none) (fun v5 => some (0, z5.2, some v5.toInt64)))
def rm_L_rowPlace : Room := { frames := 8, cells := 1, slots := 6, locals := 143 }
def f_L_rows (M : Mem) (x1 : Int32) : Option (Int32 × Mem × Option Int64) := bd (f_X6_rows M x1) (fun z4 => lx z4 (fun E => if E = eI then some (1, z4.2, none) else none) (fun v4 => some (0, z4.2, some v4.toInt64)))
def rm_L_rows : Room := { frames := 8, cells := 1, slots := 6, locals := 142 }
def f_L_rowsAt (M : Mem) (x1 : Int32) (x2 : Int32) (x3 : Int32) : Option (Int32 × Mem × Option Int64) := bd (f_X6_rowsAt M x1 x2 x3) (fun z7 => lx z7 (fun E => if E = eI then some (1, z7.2, none) else none) (fun v7 => some (0, z7.2, some v7.toInt64)))
def rm_L_rowsAt : Room := { frames := 9, cells := 2, slots := 12, locals := 168 }
def f_L_rowsWith (M : Mem) (x1 : Int32) (x2 : Int32) (x3 : Int32) : Option (Int32 × Mem × Option Int64) := bd (f_X6_rowsWith M x1 x2 x3) (fun z7 => lx z7 (fun E => if E = eI then some (1, z7.2, none) else none) (fun v7 => some (0, z7.2, some v7.toInt64)))
def rm_L_rowsWith : Room := { frames := 10, cells := 3, slots := 18, locals := 192 }
def f_L_setAt (M : Mem) (x1 : Int32) (x2 : Int32) : Option (Int32 × Mem × Option Int64) := bd (f_X6_setAt M x1 x2) (fun z5 => lx z5 (fun E => if E = eI then some (1, z5.2, none) else none) (fun v5 => some (0, z5.2, some v5.toInt64)))
def rm_L_setAt : Room := { frames := 8, cells := 2, slots := 12, locals := 144 }
def f_L_setValue (M : Mem) (x1 : Int32) (x2 : Int32) (x3 : Int32) : Option (Int32 × Mem × Option Int64) := bd (f_X6_setValue M x1 x2 x3) (fun z7 => lx z7 (fun E => if E = eI then some (1, z7.2, none) else if E = eA then some (2, z7.2, none) else none) (fun v7 => some (0, z7.2, some v7.toInt64)))
def rm_L_setValue : Room := { frames := 9, cells := 3, slots := 18, locals := 169 }
def f_L_sets (M : Mem) (x1 : Int32) : Option (Int32 × Mem × Option Int64) := bd (f_X6_sets M x1) (fun z4 => lx z4 (fun E => if E = eI then some (1, z4.2, none) else none) (fun v4 => some (0, z4.2, some v4.toInt64)))
def rm_L_sets : Room := { frames := 8, cells := 1, slots := 6, locals := 142 }
def f_L_setsOf (M : Mem) (x1 : Int32) (x2 : Int32) : Option (Int32 × Mem × Option Int64) := bd (f_X6_setsOf M x1 x2) (fun z5 => lx z5 (fun E => if E = eI then some (1, z5.2, none) else none) (fun v5 => some (0, z5.2, some v5.toInt64)))
def rm_L_setsOf : Room := { frames := 8, cells := 1, slots := 6, locals := 143 }
def f_L_share (M : Mem) (x1 : Int32) (x2 : Int32) (x3 : Int32) : Option (Int32 × Mem × Option UInt64) := bd (f_X6_share M x1 x2 x3) (fun z7 => lx z7 (fun E => if E = eI then some (1, z7.2, none) else none) (fun v7 => chk (nn64 (FP.f2d v7)) (some (0, z7.2, some (FP.f2d v7)))))
def rm_L_share : Room := { frames := 10, cells := 3, slots := 18, locals := 193 }
def f_L_shared (M : Mem) (x1 : Int32) (x2 : Int32) : Option (Int32 × Mem × Option Int64) := bd (f_X6_shared M x1 x2) (fun z5 => lx z5 (fun E => if E = eI then some (1, z5.2, none) else none) (fun v5 => some (0, z5.2, some v5.toInt64)))
def rm_L_shared : Room := { frames := 8, cells := 2, slots := 12, locals := 145 }
def f_L_sign (M : Mem) (x1 : Int32) (x2 : Int32) (x3 : Int32) : Option (Int32 × Mem × Option Int64) := bd (f_X6_sign M x1 x2 x3) (fun z7 => lx z7 (fun E => if E = eI then some (1, z7.2, none) else none) (fun v7 => some (0, z7.2, some v7.toInt64)))
def rm_L_sign : Room := { frames := 10, cells := 3, slots := 18, locals := 192 }
def f_L_straighten (M : Mem) (x1 : Int32) (x2 : Int32) : Option (Int32 × Mem × Option Int64) := bd (f_X6_straighten M x1 x2) (fun z5 => lx z5 (fun E => if E = eI then some (1, z5.2, none) else none) (fun v5 => some (0, z5.2, some v5.toInt64)))
def rm_L_straighten : Room := { frames := 8, cells := 2, slots := 12, locals := 147 }
def f_L_sum (M : Mem) (x1 : Int32) (x2 : Int32) : Option (Int32 × Mem × Option Int64) := bd (f_X6_sum M x1 x2) (fun z5 => lx z5 (fun E => if E = eI then some (1, z5.2, none) else none) (fun v5 => some (0, z5.2, some v5.toInt64)))
def rm_L_sum : Room := { frames := 9, cells := 2, slots := 12, locals := 166 }
def f_L_things (M : Mem) (x1 : Int32) : Option (Int32 × Mem × Option Int64) := bd (f_X6_things M x1) (fun z4 => lx z4 (fun E => if E = eI then some (1, z4.2, none) else none) (fun v4 => some (0, z4.2, some v4.toInt64)))
def rm_L_things : Room := { frames := 8, cells := 1, slots := 6, locals := 142 }
def f_L_tops (M : Mem) (x1 : Int32) (x2 : Int32) : Option (Int32 × Mem × Option Int64) := bd (f_X6_tops M x1 x2) (fun z5 => lx z5 (fun E => if E = eI then some (1, z5.2, none) else if E = eA then some (2, z5.2, none) else none) (fun v5 => some (0, z5.2, some v5.toInt64)))
def rm_L_tops : Room := { frames := 9, cells := 2, slots := 12, locals := 167 }
def f_L_turn (M : Mem) (x1 : Int32) : Option (Int32 × Mem × Option Int64) := bd (f_X6_turn M x1) (fun z4 => lx z4 (fun E => if E = eI then some (1, z4.2, none) else none) (fun v4 => some (0, z4.2, some v4.toInt64)))
def rm_L_turn : Room := { frames := 8, cells := 1, slots := 6, locals := 143 }
def f_L_undone (M : Mem) (x1 : Int32) (x2 : Int32) : Option (Int32 × Mem × Option Int64) := bd (f_X6_undone M x1 x2) (fun z5 => lx z5 (fun E => if E = eI then some (1, z5.2, none) else none) (fun v5 => some (0, z5.2, some v5.toInt64)))
def rm_L_undone : Room := { frames := 9, cells := 2, slots := 12, locals := 166 }
def f_L_upper (M : Mem) (x1 : Int32) (x2 : Int32) : Option (Int32 × Mem × Option Int64) := bd (f_X6_upper M x1 x2) (fun z5 => lx z5 (fun E => if E = eI then some (1, z5.2, none) else none) (fun v5 => some (0, z5.2, some v5.toInt64)))
def rm_L_upper : Room := { frames := 9, cells := 2, slots := 12, locals := 166 }
def f_L_value (M : Mem) (x1 : Int32) (x2 : Int32) : Option (Int32 × Mem × Option Int64) := bd (f_X6_value M x1 x2) (fun z5 => lx z5 (fun E => if E = eI then some (1, z5.2, none) else none) (fun v5 => some (0, z5.2, some v5.toInt64)))
def rm_L_value : Room := { frames := 9, cells := 2, slots := 12, locals := 166 }
def f_L_widest (M : Mem) (x1 : Int32) : Option (Int32 × Mem × Option Int64) := bd (f_X6_widest M x1) (fun z4 => lx z4 (fun E => if E = eI then some (1, z4.2, none) else none) (fun v4 => some (0, z4.2, some v4.toInt64)))
def rm_L_widest : Room := { frames := 8, cells := 1, slots := 6, locals := 142 }
theorem ky_X6_above : CY yX6_above cX6_above 4 (some .int) 3 := ⟨Tz_mem (tz3 (List.mem_of_getElem? (i := 57) rfl)) rfl, Tz_mem (tz1 (List.mem_of_getElem? (i := 1) rfl)) rfl, ⟨by decide +kernel, by decide +kernel⟩, by decide +kernel⟩
theorem ky_X6_add : CY yX6_add cX6_add 4 (some .int) 2 := ⟨Tz_mem (tz2 (List.mem_of_getElem? (i := 106) rfl)) rfl, Tz_mem (tz1 (List.mem_of_getElem? (i := 1) rfl)) rfl, ⟨by decide +kernel, by decide +kernel⟩, by decide +kernel⟩
theorem ky_X6_aparts : CY yX6_aparts cX6_aparts 2 (some .int) 1 := ⟨Tz_mem (tz3 (List.mem_of_getElem? (i := 234) rfl)) rfl, Tz_mem (tz1 (List.mem_of_getElem? (i := 1) rfl)) rfl, ⟨by decide +kernel, by decide +kernel⟩, by decide +kernel⟩
theorem ky_X6_areSound : CY yX6_areSound cX6_areSound 5 (some .boolean) 2 := ⟨Tz_mem (tz5 (List.mem_of_getElem? (i := 99) rfl)) rfl, Tz_mem (tz1 (List.mem_of_getElem? (i := 1) rfl)) rfl, ⟨by decide +kernel, by decide +kernel⟩, by decide +kernel⟩
theorem ky_X6_beside : CY yX6_beside cX6_beside 4 (some .int) 3 := ⟨Tz_mem (tz3 (List.mem_of_getElem? (i := 37) rfl)) rfl, Tz_mem (tz1 (List.mem_of_getElem? (i := 1) rfl)) rfl, ⟨by decide +kernel, by decide +kernel⟩, by decide +kernel⟩
theorem ky_X6_chain : CY yX6_chain cX6_chain 4 (some .int) 2 := ⟨Tz_mem (tz2 (List.mem_of_getElem? (i := 90) rfl)) rfl, Tz_mem (tz1 (List.mem_of_getElem? (i := 1) rfl)) rfl, ⟨by decide +kernel, by decide +kernel⟩, by decide +kernel⟩
theorem ky_X6_closed : CY yX6_closed cX6_closed 3 (some .int) 2 := ⟨Tz_mem (tz4 (List.mem_of_getElem? (i := 61) rfl)) rfl, Tz_mem (tz1 (List.mem_of_getElem? (i := 1) rfl)) rfl, ⟨by decide +kernel, by decide +kernel⟩, by decide +kernel⟩
theorem ky_X6_copy : CY yX6_copy cX6_copy 5 (some .int) 2 := ⟨Tz_mem (tz3 (List.mem_of_getElem? (i := 30) rfl)) rfl, Tz_mem (tz1 (List.mem_of_getElem? (i := 1) rfl)) rfl, ⟨by decide +kernel, by decide +kernel⟩, by decide +kernel⟩
theorem ky_X6_drop : CY yX6_drop cX6_drop 5 (some .int) 2 := ⟨Tz_mem (tz2 (List.mem_of_getElem? (i := 137) rfl)) rfl, Tz_mem (tz1 (List.mem_of_getElem? (i := 1) rfl)) rfl, ⟨by decide +kernel, by decide +kernel⟩, by decide +kernel⟩
theorem ky_X6_ends : CY yX6_ends cX6_ends 4 (some .int) 2 := ⟨Tz_mem (tz3 (List.mem_of_getElem? (i := 139) rfl)) rfl, Tz_mem (tz1 (List.mem_of_getElem? (i := 1) rfl)) rfl, ⟨by decide +kernel, by decide +kernel⟩, by decide +kernel⟩
theorem ky_X6_fewestAparts : CY yX6_fewestAparts cX6_fewestAparts 2 (some .int) 1 := ⟨Tz_mem (tz3 (List.mem_of_getElem? (i := 222) rfl)) rfl, Tz_mem (tz1 (List.mem_of_getElem? (i := 1) rfl)) rfl, ⟨by decide +kernel, by decide +kernel⟩, by decide +kernel⟩
theorem ky_X6_fewestChains : CY yX6_fewestChains cX6_fewestChains 2 (some .int) 1 := ⟨Tz_mem (tz3 (List.mem_of_getElem? (i := 206) rfl)) rfl, Tz_mem (tz1 (List.mem_of_getElem? (i := 1) rfl)) rfl, ⟨by decide +kernel, by decide +kernel⟩, by decide +kernel⟩
theorem ky_X6_inner : CY yX6_inner cX6_inner 3 (some .int) 2 := ⟨Tz_mem (tz4 (List.mem_of_getElem? (i := 72) rfl)) rfl, Tz_mem (tz1 (List.mem_of_getElem? (i := 1) rfl)) rfl, ⟨by decide +kernel, by decide +kernel⟩, by decide +kernel⟩
theorem ky_X6_isApart : CY yX6_isApart cX6_isApart 3 (some .boolean) 2 := ⟨Tz_mem (tz3 (List.mem_of_getElem? (i := 177) rfl)) rfl, Tz_mem (tz1 (List.mem_of_getElem? (i := 1) rfl)) rfl, ⟨by decide +kernel, by decide +kernel⟩, by decide +kernel⟩
theorem ky_X6_isChain : CY yX6_isChain cX6_isChain 3 (some .boolean) 2 := ⟨Tz_mem (tz3 (List.mem_of_getElem? (i := 169) rfl)) rfl, Tz_mem (tz1 (List.mem_of_getElem? (i := 1) rfl)) rfl, ⟨by decide +kernel, by decide +kernel⟩, by decide +kernel⟩
theorem ky_X6_isNext : CY yX6_isNext cX6_isNext 4 (some .boolean) 3 := ⟨Tz_mem (tz3 (List.mem_of_getElem? (i := 117) rfl)) rfl, Tz_mem (tz1 (List.mem_of_getElem? (i := 1) rfl)) rfl, ⟨by decide +kernel, by decide +kernel⟩, by decide +kernel⟩
theorem ky_X6_isSame : CY yX6_isSame cX6_isSame 5 (some .boolean) 2 := ⟨Tz_mem (tz3 (List.mem_of_getElem? (i := 158) rfl)) rfl, Tz_mem (tz1 (List.mem_of_getElem? (i := 1) rfl)) rfl, ⟨by decide +kernel, by decide +kernel⟩, by decide +kernel⟩
theorem ky_X6_isSound : CY yX6_isSound cX6_isSound 2 (some .boolean) 1 := ⟨Tz_mem (tz4 (List.mem_of_getElem? (i := 237) rfl)) rfl, Tz_mem (tz1 (List.mem_of_getElem? (i := 1) rfl)) rfl, ⟨by decide +kernel, by decide +kernel⟩, by decide +kernel⟩
theorem ky_X6_keep : CY yX6_keep cX6_keep 5 (some .int) 2 := ⟨Tz_mem (tz2 (List.mem_of_getElem? (i := 160) rfl)) rfl, Tz_mem (tz1 (List.mem_of_getElem? (i := 1) rfl)) rfl, ⟨by decide +kernel, by decide +kernel⟩, by decide +kernel⟩
theorem ky_X6_lay : CY yX6_lay cX6_lay 5 (some .int) 2 := ⟨Tz_mem (tz1 (List.mem_of_getElem? (i := 228) rfl)) rfl, Tz_mem (tz1 (List.mem_of_getElem? (i := 1) rfl)) rfl, ⟨by decide +kernel, by decide +kernel⟩, by decide +kernel⟩
theorem ky_X6_level : CY yX6_level cX6_level 4 (some .int) 2 := ⟨Tz_mem (tz3 (List.mem_of_getElem? (i := 185) rfl)) rfl, Tz_mem (tz1 (List.mem_of_getElem? (i := 1) rfl)) rfl, ⟨by decide +kernel, by decide +kernel⟩, by decide +kernel⟩
theorem ky_X6_longest : CY yX6_longest cX6_longest 3 (some .int) 1 := ⟨Tz_mem (tz3 (List.mem_of_getElem? (i := 192) rfl)) rfl, Tz_mem (tz1 (List.mem_of_getElem? (i := 1) rfl)) rfl, ⟨by decide +kernel, by decide +kernel⟩, by decide +kernel⟩
theorem ky_X6_loose : CY yX6_loose cX6_loose 5 (some .int) 3 := ⟨Tz_mem (tz2 (List.mem_of_getElem? (i := 200) rfl)) rfl, Tz_mem (tz1 (List.mem_of_getElem? (i := 1) rfl)) rfl, ⟨by decide +kernel, by decide +kernel⟩, by decide +kernel⟩
theorem ky_X6_lower : CY yX6_lower cX6_lower 3 (some .int) 2 := ⟨Tz_mem (tz3 (List.mem_of_getElem? (i := 124) rfl)) rfl, Tz_mem (tz1 (List.mem_of_getElem? (i := 1) rfl)) rfl, ⟨by decide +kernel, by decide +kernel⟩, by decide +kernel⟩
theorem ky_X6_meanPlace : CY yX6_meanPlace cX6_meanPlace 5 (some .double) 2 := ⟨Tz_mem (tz4 (List.mem_of_getElem? (i := 170) rfl)) rfl, Tz_mem (tz1 (List.mem_of_getElem? (i := 1) rfl)) rfl, ⟨by decide +kernel, by decide +kernel⟩, by decide +kernel⟩
theorem ky_X6_meet : CY yX6_meet cX6_meet 7 (some .int) 3 := ⟨Tz_mem (tz3 (List.mem_of_getElem? (i := 64) rfl)) rfl, Tz_mem (tz1 (List.mem_of_getElem? (i := 1) rfl)) rfl, ⟨by decide +kernel, by decide +kernel⟩, by decide +kernel⟩
theorem ky_X6_near : CY yX6_near cX6_near 5 (some .int) 3 := ⟨Tz_mem (tz4 (List.mem_of_getElem? (i := 47) rfl)) rfl, Tz_mem (tz1 (List.mem_of_getElem? (i := 1) rfl)) rfl, ⟨by decide +kernel, by decide +kernel⟩, by decide +kernel⟩
theorem ky_X6_nextRow : CY yX6_nextRow cX6_nextRow 5 (some .int) 2 := ⟨Tz_mem (tz4 (List.mem_of_getElem? (i := 134) rfl)) rfl, Tz_mem (tz1 (List.mem_of_getElem? (i := 1) rfl)) rfl, ⟨by decide +kernel, by decide +kernel⟩, by decide +kernel⟩
theorem ky_X6_nexts : CY yX6_nexts cX6_nexts 2 (some .int) 1 := ⟨Tz_mem (tz3 (List.mem_of_getElem? (i := 90) rfl)) rfl, Tz_mem (tz1 (List.mem_of_getElem? (i := 1) rfl)) rfl, ⟨by decide +kernel, by decide +kernel⟩, by decide +kernel⟩
theorem ky_X6_number : CY yX6_number cX6_number 4 (some .int) 3 := ⟨Tz_mem (tz4 (List.mem_of_getElem? (i := 203) rfl)) rfl, Tz_mem (tz1 (List.mem_of_getElem? (i := 1) rfl)) rfl, ⟨by decide +kernel, by decide +kernel⟩, by decide +kernel⟩
theorem ky_X6_pairs : CY yX6_pairs cX6_pairs 2 (some .int) 1 := ⟨Tz_mem (tz3 (List.mem_of_getElem? (i := 83) rfl)) rfl, Tz_mem (tz1 (List.mem_of_getElem? (i := 1) rfl)) rfl, ⟨by decide +kernel, by decide +kernel⟩, by decide +kernel⟩
theorem ky_X6_placeOf : CY yX6_placeOf cX6_placeOf 4 (some .int) 2 := ⟨Tz_mem (tz4 (List.mem_of_getElem? (i := 33) rfl)) rfl, Tz_mem (tz1 (List.mem_of_getElem? (i := 1) rfl)) rfl, ⟨by decide +kernel, by decide +kernel⟩, by decide +kernel⟩
theorem ky_X6_put : CY yX6_put cX6_put 4 (some .int) 3 := ⟨Tz_mem (tz2 (List.mem_of_getElem? (i := 180) rfl)) rfl, Tz_mem (tz1 (List.mem_of_getElem? (i := 1) rfl)) rfl, ⟨by decide +kernel, by decide +kernel⟩, by decide +kernel⟩
theorem ky_X6_rowAt : CY yX6_rowAt cX6_rowAt 4 (some .int) 2 := ⟨Tz_mem (tz4 (List.mem_of_getElem? (i := 107) rfl)) rfl, Tz_mem (tz1 (List.mem_of_getElem? (i := 1) rfl)) rfl, ⟨by decide +kernel, by decide +kernel⟩, by decide +kernel⟩
theorem ky_X6_rowPlace : CY yX6_rowPlace cX6_rowPlace 3 (some .int) 2 := ⟨Tz_mem (tz4 (List.mem_of_getElem? (i := 118) rfl)) rfl, Tz_mem (tz1 (List.mem_of_getElem? (i := 1) rfl)) rfl, ⟨by decide +kernel, by decide +kernel⟩, by decide +kernel⟩
theorem ky_X6_rows : CY yX6_rows cX6_rows 2 (some .int) 1 := ⟨Tz_mem (tz4 (List.mem_of_getElem? (i := 100) rfl)) rfl, Tz_mem (tz1 (List.mem_of_getElem? (i := 1) rfl)) rfl, ⟨by decide +kernel, by decide +kernel⟩, by decide +kernel⟩
theorem ky_X6_rowsAt : CY yX6_rowsAt cX6_rowsAt 5 (some .int) 3 := ⟨Tz_mem (tz4 (List.mem_of_getElem? (i := 158) rfl)) rfl, Tz_mem (tz1 (List.mem_of_getElem? (i := 1) rfl)) rfl, ⟨by decide +kernel, by decide +kernel⟩, by decide +kernel⟩
theorem ky_X6_rowsWith : CY yX6_rowsWith cX6_rowsWith 5 (some .int) 3 := ⟨Tz_mem (tz4 (List.mem_of_getElem? (i := 142) rfl)) rfl, Tz_mem (tz1 (List.mem_of_getElem? (i := 1) rfl)) rfl, ⟨by decide +kernel, by decide +kernel⟩, by decide +kernel⟩
theorem ky_X6_setAt : CY yX6_setAt cX6_setAt 4 (some .int) 2 := ⟨Tz_mem (tz4 (List.mem_of_getElem? (i := 22) rfl)) rfl, Tz_mem (tz1 (List.mem_of_getElem? (i := 1) rfl)) rfl, ⟨by decide +kernel, by decide +kernel⟩, by decide +kernel⟩
theorem ky_X6_setValue : CY yX6_setValue cX6_setValue 6 (some .int) 3 := ⟨Tz_mem (tz2 (List.mem_of_getElem? (i := 173) rfl)) rfl, Tz_mem (tz1 (List.mem_of_getElem? (i := 1) rfl)) rfl, ⟨by decide +kernel, by decide +kernel⟩, by decide +kernel⟩
theorem ky_X6_sets : CY yX6_sets cX6_sets 2 (some .int) 1 := ⟨Tz_mem (tz4 (List.mem_of_getElem? (i := 4) rfl)) rfl, Tz_mem (tz1 (List.mem_of_getElem? (i := 1) rfl)) rfl, ⟨by decide +kernel, by decide +kernel⟩, by decide +kernel⟩
theorem ky_X6_setsOf : CY yX6_setsOf cX6_setsOf 3 (some .int) 2 := ⟨Tz_mem (tz4 (List.mem_of_getElem? (i := 11) rfl)) rfl, Tz_mem (tz1 (List.mem_of_getElem? (i := 1) rfl)) rfl, ⟨by decide +kernel, by decide +kernel⟩, by decide +kernel⟩
theorem ky_X6_share : CY yX6_share cX6_share 6 (some .float) 3 := ⟨Tz_mem (tz4 (List.mem_of_getElem? (i := 185) rfl)) rfl, Tz_mem (tz1 (List.mem_of_getElem? (i := 1) rfl)) rfl, ⟨by decide +kernel, by decide +kernel⟩, by decide +kernel⟩
theorem ky_X6_shared : CY yX6_shared cX6_shared 5 (some .int) 2 := ⟨Tz_mem (tz4 (List.mem_of_getElem? (i := 90) rfl)) rfl, Tz_mem (tz1 (List.mem_of_getElem? (i := 1) rfl)) rfl, ⟨by decide +kernel, by decide +kernel⟩, by decide +kernel⟩
theorem ky_X6_sign : CY yX6_sign cX6_sign 5 (some .char) 3 := ⟨Tz_mem (tz3 (List.mem_of_getElem? (i := 109) rfl)) rfl, Tz_mem (tz1 (List.mem_of_getElem? (i := 1) rfl)) rfl, ⟨by decide +kernel, by decide +kernel⟩, by decide +kernel⟩
theorem ky_X6_straighten : CY yX6_straighten cX6_straighten 5 (some .int) 2 := ⟨Tz_mem (tz2 (List.mem_of_getElem? (i := 219) rfl)) rfl, Tz_mem (tz1 (List.mem_of_getElem? (i := 1) rfl)) rfl, ⟨by decide +kernel, by decide +kernel⟩, by decide +kernel⟩
theorem ky_X6_sum : CY yX6_sum cX6_sum 3 (some .int) 2 := ⟨Tz_mem (tz4 (List.mem_of_getElem? (i := 192) rfl)) rfl, Tz_mem (tz1 (List.mem_of_getElem? (i := 1) rfl)) rfl, ⟨by decide +kernel, by decide +kernel⟩, by decide +kernel⟩
theorem ky_X6_things : CY yX6_things cX6_things 2 (some .int) 1 := ⟨Tz_mem (tz3 (List.mem_of_getElem? (i := 76) rfl)) rfl, Tz_mem (tz1 (List.mem_of_getElem? (i := 1) rfl)) rfl, ⟨by decide +kernel, by decide +kernel⟩, by decide +kernel⟩
theorem ky_X6_tops : CY yX6_tops cX6_tops 4 (some .int) 2 := ⟨Tz_mem (tz4 (List.mem_of_getElem? (i := 83) rfl)) rfl, Tz_mem (tz1 (List.mem_of_getElem? (i := 1) rfl)) rfl, ⟨by decide +kernel, by decide +kernel⟩, by decide +kernel⟩
theorem ky_X6_turn : CY yX6_turn cX6_turn 3 (some .int) 1 := ⟨Tz_mem (tz3 (List.mem_of_getElem? (i := 14) rfl)) rfl, Tz_mem (tz1 (List.mem_of_getElem? (i := 1) rfl)) rfl, ⟨by decide +kernel, by decide +kernel⟩, by decide +kernel⟩
theorem ky_X6_undone : CY yX6_undone cX6_undone 3 (some .int) 2 := ⟨Tz_mem (tz4 (List.mem_of_getElem? (i := 224) rfl)) rfl, Tz_mem (tz1 (List.mem_of_getElem? (i := 1) rfl)) rfl, ⟨by decide +kernel, by decide +kernel⟩, by decide +kernel⟩
theorem ky_X6_upper : CY yX6_upper cX6_upper 3 (some .int) 2 := ⟨Tz_mem (tz3 (List.mem_of_getElem? (i := 131) rfl)) rfl, Tz_mem (tz1 (List.mem_of_getElem? (i := 1) rfl)) rfl, ⟨by decide +kernel, by decide +kernel⟩, by decide +kernel⟩
theorem ky_X6_value : CY yX6_value cX6_value 3 (some .int) 2 := ⟨Tz_mem (tz3 (List.mem_of_getElem? (i := 151) rfl)) rfl, Tz_mem (tz1 (List.mem_of_getElem? (i := 1) rfl)) rfl, ⟨by decide +kernel, by decide +kernel⟩, by decide +kernel⟩
theorem ky_X6_widest : CY yX6_widest cX6_widest 2 (some .int) 1 := ⟨Tz_mem (tz3 (List.mem_of_getElem? (i := 199) rfl)) rfl, Tz_mem (tz1 (List.mem_of_getElem? (i := 1) rfl)) rfl, ⟨by decide +kernel, by decide +kernel⟩, by decide +kernel⟩
theorem kv_X6_above : CYv yX6_above := ⟨Tz_mem (tz3 (List.mem_of_getElem? (i := 55) rfl)) rfl, Tz_mem (tz3 (List.mem_of_getElem? (i := 56) rfl)) rfl⟩
theorem kv_X6_add : CYv yX6_add := ⟨Tz_mem (tz2 (List.mem_of_getElem? (i := 104) rfl)) rfl, Tz_mem (tz2 (List.mem_of_getElem? (i := 105) rfl)) rfl⟩
theorem kv_X6_aparts : CYv yX6_aparts := ⟨Tz_mem (tz3 (List.mem_of_getElem? (i := 232) rfl)) rfl, Tz_mem (tz3 (List.mem_of_getElem? (i := 233) rfl)) rfl⟩
theorem kv_X6_areSound : CYv yX6_areSound := ⟨Tz_mem (tz5 (List.mem_of_getElem? (i := 97) rfl)) rfl, Tz_mem (tz5 (List.mem_of_getElem? (i := 98) rfl)) rfl⟩
theorem kv_X6_beside : CYv yX6_beside := ⟨Tz_mem (tz3 (List.mem_of_getElem? (i := 35) rfl)) rfl, Tz_mem (tz3 (List.mem_of_getElem? (i := 36) rfl)) rfl⟩
theorem kv_X6_chain : CYv yX6_chain := ⟨Tz_mem (tz2 (List.mem_of_getElem? (i := 88) rfl)) rfl, Tz_mem (tz2 (List.mem_of_getElem? (i := 89) rfl)) rfl⟩
theorem kv_X6_closed : CYv yX6_closed := ⟨Tz_mem (tz4 (List.mem_of_getElem? (i := 59) rfl)) rfl, Tz_mem (tz4 (List.mem_of_getElem? (i := 60) rfl)) rfl⟩
theorem kv_X6_copy : CYv yX6_copy := ⟨Tz_mem (tz3 (List.mem_of_getElem? (i := 28) rfl)) rfl, Tz_mem (tz3 (List.mem_of_getElem? (i := 29) rfl)) rfl⟩
theorem kv_X6_drop : CYv yX6_drop := ⟨Tz_mem (tz2 (List.mem_of_getElem? (i := 135) rfl)) rfl, Tz_mem (tz2 (List.mem_of_getElem? (i := 136) rfl)) rfl⟩
theorem kv_X6_ends : CYv yX6_ends := ⟨Tz_mem (tz3 (List.mem_of_getElem? (i := 137) rfl)) rfl, Tz_mem (tz3 (List.mem_of_getElem? (i := 138) rfl)) rfl⟩
theorem kv_X6_fewestAparts : CYv yX6_fewestAparts := ⟨Tz_mem (tz3 (List.mem_of_getElem? (i := 220) rfl)) rfl, Tz_mem (tz3 (List.mem_of_getElem? (i := 221) rfl)) rfl⟩
theorem kv_X6_fewestChains : CYv yX6_fewestChains := ⟨Tz_mem (tz3 (List.mem_of_getElem? (i := 204) rfl)) rfl, Tz_mem (tz3 (List.mem_of_getElem? (i := 205) rfl)) rfl⟩
theorem kv_X6_inner : CYv yX6_inner := ⟨Tz_mem (tz4 (List.mem_of_getElem? (i := 70) rfl)) rfl, Tz_mem (tz4 (List.mem_of_getElem? (i := 71) rfl)) rfl⟩
theorem kv_X6_isApart : CYv yX6_isApart := ⟨Tz_mem (tz3 (List.mem_of_getElem? (i := 175) rfl)) rfl, Tz_mem (tz3 (List.mem_of_getElem? (i := 176) rfl)) rfl⟩
theorem kv_X6_isChain : CYv yX6_isChain := ⟨Tz_mem (tz3 (List.mem_of_getElem? (i := 167) rfl)) rfl, Tz_mem (tz3 (List.mem_of_getElem? (i := 168) rfl)) rfl⟩
theorem kv_X6_isNext : CYv yX6_isNext := ⟨Tz_mem (tz3 (List.mem_of_getElem? (i := 115) rfl)) rfl, Tz_mem (tz3 (List.mem_of_getElem? (i := 116) rfl)) rfl⟩
theorem kv_X6_isSame : CYv yX6_isSame := ⟨Tz_mem (tz3 (List.mem_of_getElem? (i := 156) rfl)) rfl, Tz_mem (tz3 (List.mem_of_getElem? (i := 157) rfl)) rfl⟩
theorem kv_X6_isSound : CYv yX6_isSound := ⟨Tz_mem (tz4 (List.mem_of_getElem? (i := 235) rfl)) rfl, Tz_mem (tz4 (List.mem_of_getElem? (i := 236) rfl)) rfl⟩
theorem kv_X6_keep : CYv yX6_keep := ⟨Tz_mem (tz2 (List.mem_of_getElem? (i := 158) rfl)) rfl, Tz_mem (tz2 (List.mem_of_getElem? (i := 159) rfl)) rfl⟩
theorem kv_X6_lay : CYv yX6_lay := ⟨Tz_mem (tz1 (List.mem_of_getElem? (i := 226) rfl)) rfl, Tz_mem (tz1 (List.mem_of_getElem? (i := 227) rfl)) rfl⟩
theorem kv_X6_level : CYv yX6_level := ⟨Tz_mem (tz3 (List.mem_of_getElem? (i := 183) rfl)) rfl, Tz_mem (tz3 (List.mem_of_getElem? (i := 184) rfl)) rfl⟩
theorem kv_X6_longest : CYv yX6_longest := ⟨Tz_mem (tz3 (List.mem_of_getElem? (i := 190) rfl)) rfl, Tz_mem (tz3 (List.mem_of_getElem? (i := 191) rfl)) rfl⟩
theorem kv_X6_loose : CYv yX6_loose := ⟨Tz_mem (tz2 (List.mem_of_getElem? (i := 198) rfl)) rfl, Tz_mem (tz2 (List.mem_of_getElem? (i := 199) rfl)) rfl⟩
theorem kv_X6_lower : CYv yX6_lower := ⟨Tz_mem (tz3 (List.mem_of_getElem? (i := 122) rfl)) rfl, Tz_mem (tz3 (List.mem_of_getElem? (i := 123) rfl)) rfl⟩
theorem kv_X6_meanPlace : CYv yX6_meanPlace := ⟨Tz_mem (tz4 (List.mem_of_getElem? (i := 168) rfl)) rfl, Tz_mem (tz4 (List.mem_of_getElem? (i := 169) rfl)) rfl⟩
theorem kv_X6_meet : CYv yX6_meet := ⟨Tz_mem (tz3 (List.mem_of_getElem? (i := 62) rfl)) rfl, Tz_mem (tz3 (List.mem_of_getElem? (i := 63) rfl)) rfl⟩
theorem kv_X6_near : CYv yX6_near := ⟨Tz_mem (tz4 (List.mem_of_getElem? (i := 45) rfl)) rfl, Tz_mem (tz4 (List.mem_of_getElem? (i := 46) rfl)) rfl⟩
theorem kv_X6_nextRow : CYv yX6_nextRow := ⟨Tz_mem (tz4 (List.mem_of_getElem? (i := 132) rfl)) rfl, Tz_mem (tz4 (List.mem_of_getElem? (i := 133) rfl)) rfl⟩
theorem kv_X6_nexts : CYv yX6_nexts := ⟨Tz_mem (tz3 (List.mem_of_getElem? (i := 88) rfl)) rfl, Tz_mem (tz3 (List.mem_of_getElem? (i := 89) rfl)) rfl⟩
theorem kv_X6_number : CYv yX6_number := ⟨Tz_mem (tz4 (List.mem_of_getElem? (i := 201) rfl)) rfl, Tz_mem (tz4 (List.mem_of_getElem? (i := 202) rfl)) rfl⟩
theorem kv_X6_pairs : CYv yX6_pairs := ⟨Tz_mem (tz3 (List.mem_of_getElem? (i := 81) rfl)) rfl, Tz_mem (tz3 (List.mem_of_getElem? (i := 82) rfl)) rfl⟩
theorem kv_X6_placeOf : CYv yX6_placeOf := ⟨Tz_mem (tz4 (List.mem_of_getElem? (i := 31) rfl)) rfl, Tz_mem (tz4 (List.mem_of_getElem? (i := 32) rfl)) rfl⟩
theorem kv_X6_put : CYv yX6_put := ⟨Tz_mem (tz2 (List.mem_of_getElem? (i := 178) rfl)) rfl, Tz_mem (tz2 (List.mem_of_getElem? (i := 179) rfl)) rfl⟩
theorem kv_X6_rowAt : CYv yX6_rowAt := ⟨Tz_mem (tz4 (List.mem_of_getElem? (i := 105) rfl)) rfl, Tz_mem (tz4 (List.mem_of_getElem? (i := 106) rfl)) rfl⟩
theorem kv_X6_rowPlace : CYv yX6_rowPlace := ⟨Tz_mem (tz4 (List.mem_of_getElem? (i := 116) rfl)) rfl, Tz_mem (tz4 (List.mem_of_getElem? (i := 117) rfl)) rfl⟩
theorem kv_X6_rows : CYv yX6_rows := ⟨Tz_mem (tz4 (List.mem_of_getElem? (i := 98) rfl)) rfl, Tz_mem (tz4 (List.mem_of_getElem? (i := 99) rfl)) rfl⟩
theorem kv_X6_rowsAt : CYv yX6_rowsAt := ⟨Tz_mem (tz4 (List.mem_of_getElem? (i := 156) rfl)) rfl, Tz_mem (tz4 (List.mem_of_getElem? (i := 157) rfl)) rfl⟩
theorem kv_X6_rowsWith : CYv yX6_rowsWith := ⟨Tz_mem (tz4 (List.mem_of_getElem? (i := 140) rfl)) rfl, Tz_mem (tz4 (List.mem_of_getElem? (i := 141) rfl)) rfl⟩
theorem kv_X6_setAt : CYv yX6_setAt := ⟨Tz_mem (tz4 (List.mem_of_getElem? (i := 20) rfl)) rfl, Tz_mem (tz4 (List.mem_of_getElem? (i := 21) rfl)) rfl⟩
theorem kv_X6_setValue : CYv yX6_setValue := ⟨Tz_mem (tz2 (List.mem_of_getElem? (i := 171) rfl)) rfl, Tz_mem (tz2 (List.mem_of_getElem? (i := 172) rfl)) rfl⟩
theorem kv_X6_sets : CYv yX6_sets := ⟨Tz_mem (tz4 (List.mem_of_getElem? (i := 2) rfl)) rfl, Tz_mem (tz4 (List.mem_of_getElem? (i := 3) rfl)) rfl⟩
theorem kv_X6_setsOf : CYv yX6_setsOf := ⟨Tz_mem (tz4 (List.mem_of_getElem? (i := 9) rfl)) rfl, Tz_mem (tz4 (List.mem_of_getElem? (i := 10) rfl)) rfl⟩
theorem kv_X6_share : CYv yX6_share := ⟨Tz_mem (tz4 (List.mem_of_getElem? (i := 183) rfl)) rfl, Tz_mem (tz4 (List.mem_of_getElem? (i := 184) rfl)) rfl⟩
theorem kv_X6_shared : CYv yX6_shared := ⟨Tz_mem (tz4 (List.mem_of_getElem? (i := 88) rfl)) rfl, Tz_mem (tz4 (List.mem_of_getElem? (i := 89) rfl)) rfl⟩
theorem kv_X6_sign : CYv yX6_sign := ⟨Tz_mem (tz3 (List.mem_of_getElem? (i := 107) rfl)) rfl, Tz_mem (tz3 (List.mem_of_getElem? (i := 108) rfl)) rfl⟩
theorem kv_X6_straighten : CYv yX6_straighten := ⟨Tz_mem (tz2 (List.mem_of_getElem? (i := 217) rfl)) rfl, Tz_mem (tz2 (List.mem_of_getElem? (i := 218) rfl)) rfl⟩
theorem kv_X6_sum : CYv yX6_sum := ⟨Tz_mem (tz4 (List.mem_of_getElem? (i := 190) rfl)) rfl, Tz_mem (tz4 (List.mem_of_getElem? (i := 191) rfl)) rfl⟩
theorem kv_X6_things : CYv yX6_things := ⟨Tz_mem (tz3 (List.mem_of_getElem? (i := 74) rfl)) rfl, Tz_mem (tz3 (List.mem_of_getElem? (i := 75) rfl)) rfl⟩
theorem kv_X6_tops : CYv yX6_tops := ⟨Tz_mem (tz4 (List.mem_of_getElem? (i := 81) rfl)) rfl, Tz_mem (tz4 (List.mem_of_getElem? (i := 82) rfl)) rfl⟩
theorem kv_X6_turn : CYv yX6_turn := ⟨Tz_mem (tz3 (List.mem_of_getElem? (i := 12) rfl)) rfl, Tz_mem (tz3 (List.mem_of_getElem? (i := 13) rfl)) rfl⟩
theorem kv_X6_undone : CYv yX6_undone := ⟨Tz_mem (tz4 (List.mem_of_getElem? (i := 222) rfl)) rfl, Tz_mem (tz4 (List.mem_of_getElem? (i := 223) rfl)) rfl⟩
theorem kv_X6_upper : CYv yX6_upper := ⟨Tz_mem (tz3 (List.mem_of_getElem? (i := 129) rfl)) rfl, Tz_mem (tz3 (List.mem_of_getElem? (i := 130) rfl)) rfl⟩
theorem kv_X6_value : CYv yX6_value := ⟨Tz_mem (tz3 (List.mem_of_getElem? (i := 149) rfl)) rfl, Tz_mem (tz3 (List.mem_of_getElem? (i := 150) rfl)) rfl⟩
theorem kv_X6_widest : CYv yX6_widest := ⟨Tz_mem (tz3 (List.mem_of_getElem? (i := 197) rfl)) rfl, Tz_mem (tz3 (List.mem_of_getElem? (i := 198) rfl)) rfl⟩
theorem kl_L_54 : Cond.methodLink RL 54 yX6_above ∈ Tz := Tz_mem (tz3 (List.mem_of_getElem? (i := 54) rfl)) rfl
theorem kl_L_20 : Cond.methodLink RL 20 yX6_add ∈ Tz := Tz_mem (tz2 (List.mem_of_getElem? (i := 103) rfl)) rfl
theorem kl_L_115 : Cond.methodLink RL 115 yX6_aparts ∈ Tz := Tz_mem (tz3 (List.mem_of_getElem? (i := 231) rfl)) rfl
theorem kl_L_185 : Cond.methodLink RL 185 yX6_areSound ∈ Tz := Tz_mem (tz5 (List.mem_of_getElem? (i := 96) rfl)) rfl
theorem kl_L_51 : Cond.methodLink RL 51 yX6_beside ∈ Tz := Tz_mem (tz3 (List.mem_of_getElem? (i := 34) rfl)) rfl
theorem kl_L_17 : Cond.methodLink RL 17 yX6_chain ∈ Tz := Tz_mem (tz2 (List.mem_of_getElem? (i := 87) rfl)) rfl
theorem kl_L_134 : Cond.methodLink RL 134 yX6_closed ∈ Tz := Tz_mem (tz4 (List.mem_of_getElem? (i := 58) rfl)) rfl
theorem kl_L_48 : Cond.methodLink RL 48 yX6_copy ∈ Tz := Tz_mem (tz3 (List.mem_of_getElem? (i := 27) rfl)) rfl
theorem kl_L_25 : Cond.methodLink RL 25 yX6_drop ∈ Tz := Tz_mem (tz2 (List.mem_of_getElem? (i := 134) rfl)) rfl
theorem kl_L_83 : Cond.methodLink RL 83 yX6_ends ∈ Tz := Tz_mem (tz3 (List.mem_of_getElem? (i := 136) rfl)) rfl
theorem kl_L_112 : Cond.methodLink RL 112 yX6_fewestAparts ∈ Tz := Tz_mem (tz3 (List.mem_of_getElem? (i := 219) rfl)) rfl
theorem kl_L_109 : Cond.methodLink RL 109 yX6_fewestChains ∈ Tz := Tz_mem (tz3 (List.mem_of_getElem? (i := 203) rfl)) rfl
theorem kl_L_137 : Cond.methodLink RL 137 yX6_inner ∈ Tz := Tz_mem (tz4 (List.mem_of_getElem? (i := 69) rfl)) rfl
theorem kl_L_97 : Cond.methodLink RL 97 yX6_isApart ∈ Tz := Tz_mem (tz3 (List.mem_of_getElem? (i := 174) rfl)) rfl
theorem kl_L_94 : Cond.methodLink RL 94 yX6_isChain ∈ Tz := Tz_mem (tz3 (List.mem_of_getElem? (i := 166) rfl)) rfl
theorem kl_L_73 : Cond.methodLink RL 73 yX6_isNext ∈ Tz := Tz_mem (tz3 (List.mem_of_getElem? (i := 114) rfl)) rfl
theorem kl_L_90 : Cond.methodLink RL 90 yX6_isSame ∈ Tz := Tz_mem (tz3 (List.mem_of_getElem? (i := 155) rfl)) rfl
theorem kl_L_181 : Cond.methodLink RL 181 yX6_isSound ∈ Tz := Tz_mem (tz4 (List.mem_of_getElem? (i := 234) rfl)) rfl
theorem kl_L_28 : Cond.methodLink RL 28 yX6_keep ∈ Tz := Tz_mem (tz2 (List.mem_of_getElem? (i := 157) rfl)) rfl
theorem kl_L_7 : Cond.methodLink RL 7 yX6_lay ∈ Tz := Tz_mem (tz1 (List.mem_of_getElem? (i := 225) rfl)) rfl
theorem kl_L_100 : Cond.methodLink RL 100 yX6_level ∈ Tz := Tz_mem (tz3 (List.mem_of_getElem? (i := 182) rfl)) rfl
theorem kl_L_103 : Cond.methodLink RL 103 yX6_longest ∈ Tz := Tz_mem (tz3 (List.mem_of_getElem? (i := 189) rfl)) rfl
theorem kl_L_38 : Cond.methodLink RL 38 yX6_loose ∈ Tz := Tz_mem (tz2 (List.mem_of_getElem? (i := 197) rfl)) rfl
theorem kl_L_77 : Cond.methodLink RL 77 yX6_lower ∈ Tz := Tz_mem (tz3 (List.mem_of_getElem? (i := 121) rfl)) rfl
theorem kl_L_164 : Cond.methodLink RL 164 yX6_meanPlace ∈ Tz := Tz_mem (tz4 (List.mem_of_getElem? (i := 167) rfl)) rfl
theorem kl_L_57 : Cond.methodLink RL 57 yX6_meet ∈ Tz := Tz_mem (tz3 (List.mem_of_getElem? (i := 61) rfl)) rfl
theorem kl_L_130 : Cond.methodLink RL 130 yX6_near ∈ Tz := Tz_mem (tz4 (List.mem_of_getElem? (i := 44) rfl)) rfl
theorem kl_L_155 : Cond.methodLink RL 155 yX6_nextRow ∈ Tz := Tz_mem (tz4 (List.mem_of_getElem? (i := 131) rfl)) rfl
theorem kl_L_66 : Cond.methodLink RL 66 yX6_nexts ∈ Tz := Tz_mem (tz3 (List.mem_of_getElem? (i := 87) rfl)) rfl
theorem kl_L_175 : Cond.methodLink RL 175 yX6_number ∈ Tz := Tz_mem (tz4 (List.mem_of_getElem? (i := 200) rfl)) rfl
theorem kl_L_63 : Cond.methodLink RL 63 yX6_pairs ∈ Tz := Tz_mem (tz3 (List.mem_of_getElem? (i := 80) rfl)) rfl
theorem kl_L_127 : Cond.methodLink RL 127 yX6_placeOf ∈ Tz := Tz_mem (tz4 (List.mem_of_getElem? (i := 30) rfl)) rfl
theorem kl_L_35 : Cond.methodLink RL 35 yX6_put ∈ Tz := Tz_mem (tz2 (List.mem_of_getElem? (i := 177) rfl)) rfl
theorem kl_L_149 : Cond.methodLink RL 149 yX6_rowAt ∈ Tz := Tz_mem (tz4 (List.mem_of_getElem? (i := 104) rfl)) rfl
theorem kl_L_152 : Cond.methodLink RL 152 yX6_rowPlace ∈ Tz := Tz_mem (tz4 (List.mem_of_getElem? (i := 115) rfl)) rfl
theorem kl_L_146 : Cond.methodLink RL 146 yX6_rows ∈ Tz := Tz_mem (tz4 (List.mem_of_getElem? (i := 97) rfl)) rfl
theorem kl_L_161 : Cond.methodLink RL 161 yX6_rowsAt ∈ Tz := Tz_mem (tz4 (List.mem_of_getElem? (i := 155) rfl)) rfl
theorem kl_L_158 : Cond.methodLink RL 158 yX6_rowsWith ∈ Tz := Tz_mem (tz4 (List.mem_of_getElem? (i := 139) rfl)) rfl
theorem kl_L_124 : Cond.methodLink RL 124 yX6_setAt ∈ Tz := Tz_mem (tz4 (List.mem_of_getElem? (i := 19) rfl)) rfl
theorem kl_L_31 : Cond.methodLink RL 31 yX6_setValue ∈ Tz := Tz_mem (tz2 (List.mem_of_getElem? (i := 170) rfl)) rfl
theorem kl_L_118 : Cond.methodLink RL 118 yX6_sets ∈ Tz := Tz_mem (tz4 (List.mem_of_getElem? (i := 1) rfl)) rfl
theorem kl_L_121 : Cond.methodLink RL 121 yX6_setsOf ∈ Tz := Tz_mem (tz4 (List.mem_of_getElem? (i := 8) rfl)) rfl
theorem kl_L_168 : Cond.methodLink RL 168 yX6_share ∈ Tz := Tz_mem (tz4 (List.mem_of_getElem? (i := 182) rfl)) rfl
theorem kl_L_143 : Cond.methodLink RL 143 yX6_shared ∈ Tz := Tz_mem (tz4 (List.mem_of_getElem? (i := 87) rfl)) rfl
theorem kl_L_69 : Cond.methodLink RL 69 yX6_sign ∈ Tz := Tz_mem (tz3 (List.mem_of_getElem? (i := 106) rfl)) rfl
theorem kl_L_41 : Cond.methodLink RL 41 yX6_straighten ∈ Tz := Tz_mem (tz2 (List.mem_of_getElem? (i := 216) rfl)) rfl
theorem kl_L_172 : Cond.methodLink RL 172 yX6_sum ∈ Tz := Tz_mem (tz4 (List.mem_of_getElem? (i := 189) rfl)) rfl
theorem kl_L_60 : Cond.methodLink RL 60 yX6_things ∈ Tz := Tz_mem (tz3 (List.mem_of_getElem? (i := 73) rfl)) rfl
theorem kl_L_140 : Cond.methodLink RL 140 yX6_tops ∈ Tz := Tz_mem (tz4 (List.mem_of_getElem? (i := 80) rfl)) rfl
theorem kl_L_44 : Cond.methodLink RL 44 yX6_turn ∈ Tz := Tz_mem (tz3 (List.mem_of_getElem? (i := 11) rfl)) rfl
theorem kl_L_178 : Cond.methodLink RL 178 yX6_undone ∈ Tz := Tz_mem (tz4 (List.mem_of_getElem? (i := 221) rfl)) rfl
theorem kl_L_80 : Cond.methodLink RL 80 yX6_upper ∈ Tz := Tz_mem (tz3 (List.mem_of_getElem? (i := 128) rfl)) rfl
theorem kl_L_87 : Cond.methodLink RL 87 yX6_value ∈ Tz := Tz_mem (tz3 (List.mem_of_getElem? (i := 148) rfl)) rfl
theorem kl_L_106 : Cond.methodLink RL 106 yX6_widest ∈ Tz := Tz_mem (tz3 (List.mem_of_getElem? (i := 196) rfl)) rfl
