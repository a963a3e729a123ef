def RX3 : String := "Belowhouse$Order"
abbrev cX3_init : ByteArray := prog_5_method_1_code
def yX3_init : MethodName := ⟨RX3, "<init>", "()V"⟩
abbrev cX3_all : ByteArray := prog_5_method_2_code
def yX3_all : MethodName := ⟨RX3, "all", "()I"⟩
abbrev cX3_setLimit : ByteArray := prog_5_method_3_code
def yX3_setLimit : MethodName := ⟨RX3, "setLimit", "()I"⟩
abbrev cX3_hasThing : ByteArray := prog_5_method_4_code
def yX3_hasThing : MethodName := ⟨RX3, "hasThing", "(I)Z"⟩
abbrev cX3_clearTo : ByteArray := prog_5_method_5_code
def yX3_clearTo : MethodName := ⟨RX3, "clearTo", "(I)V"⟩
abbrev cX3_lineUp : ByteArray := prog_5_method_6_code
def yX3_lineUp : MethodName := ⟨RX3, "lineUp", "()V"⟩
abbrev cX3_standAs : ByteArray := prog_5_method_7_code
def yX3_standAs : MethodName := ⟨RX3, "standAs", "([I)V"⟩
abbrev cX3_append : ByteArray := prog_5_method_8_code
def yX3_append : MethodName := ⟨RX3, "append", "(I)I"⟩
abbrev cX3_retain : ByteArray := prog_5_method_9_code
def yX3_retain : MethodName := ⟨RX3, "retain", "(I)V"⟩
abbrev cX3_squeezed : ByteArray := prog_5_method_10_code
def yX3_squeezed : MethodName := ⟨RX3, "squeezed", "(II)I"⟩
abbrev cX3_link : ByteArray := prog_5_method_11_code
def yX3_link : MethodName := ⟨RX3, "link", "(II)I"⟩
abbrev cX3_cut : ByteArray := prog_5_method_12_code
def yX3_cut : MethodName := ⟨RX3, "cut", "(II)V"⟩
abbrev cX3_become : ByteArray := prog_5_method_13_code
def yX3_become : MethodName := ⟨RX3, "become", "(LBelowhouse$Order;)V"⟩
abbrev cX3_becomeTurned : ByteArray := prog_5_method_14_code
def yX3_becomeTurned : MethodName := ⟨RX3, "becomeTurned", "(LBelowhouse$Order;)V"⟩
abbrev cX3_becomeJoined : ByteArray := prog_5_method_15_code
def yX3_becomeJoined : MethodName := ⟨RX3, "becomeJoined", "(LBelowhouse$Order;LBelowhouse$Order;Z)V"⟩
abbrev cX3_becomeCommon : ByteArray := prog_5_method_16_code
def yX3_becomeCommon : MethodName := ⟨RX3, "becomeCommon", "(LBelowhouse$Order;LBelowhouse$Order;)V"⟩
abbrev cX3_isBelow : ByteArray := prog_5_method_17_code
def yX3_isBelow : MethodName := ⟨RX3, "isBelow", "(II)Z"⟩
abbrev cX3_isNextBelow : ByteArray := prog_5_method_18_code
def yX3_isNextBelow : MethodName := ⟨RX3, "isNextBelow", "(II)Z"⟩
abbrev cX3_aboveOf : ByteArray := prog_5_method_19_code
def yX3_aboveOf : MethodName := ⟨RX3, "aboveOf", "(I)I"⟩
abbrev cX3_pairCount : ByteArray := prog_5_method_20_code
def yX3_pairCount : MethodName := ⟨RX3, "pairCount", "()I"⟩
abbrev cX3_nextCount : ByteArray := prog_5_method_21_code
def yX3_nextCount : MethodName := ⟨RX3, "nextCount", "()I"⟩
abbrev cX3_hasPairsOf : ByteArray := prog_5_method_22_code
def yX3_hasPairsOf : MethodName := ⟨RX3, "hasPairsOf", "(LBelowhouse$Order;)Z"⟩
abbrev cX3_isInLine : ByteArray := prog_5_method_23_code
def yX3_isInLine : MethodName := ⟨RX3, "isInLine", "(I)Z"⟩
abbrev cX3_isUnordered : ByteArray := prog_5_method_24_code
def yX3_isUnordered : MethodName := ⟨RX3, "isUnordered", "(I)Z"⟩
abbrev cX3_allBelow : ByteArray := prog_5_method_25_code
def yX3_allBelow : MethodName := ⟨RX3, "allBelow", "(I)I"⟩
abbrev cX3_greatestOf : ByteArray := prog_5_method_26_code
def yX3_greatestOf : MethodName := ⟨RX3, "greatestOf", "(I)I"⟩
abbrev cX3_leastOf : ByteArray := prog_5_method_27_code
def yX3_leastOf : MethodName := ⟨RX3, "leastOf", "(I)I"⟩
abbrev cX3_isClosedBelow : ByteArray := prog_5_method_28_code
def yX3_isClosedBelow : MethodName := ⟨RX3, "isClosedBelow", "(I)Z"⟩
abbrev cX3_filledUp : ByteArray := prog_5_method_29_code
def yX3_filledUp : MethodName := ⟨RX3, "filledUp", "(I)I"⟩
abbrev cX3_pared : ByteArray := prog_5_method_30_code
def yX3_pared : MethodName := ⟨RX3, "pared", "(I)I"⟩
abbrev cX3_canCome : ByteArray := prog_5_method_31_code
def yX3_canCome : MethodName := ⟨RX3, "canCome", "(II)Z"⟩
abbrev cX3_sumUpTo : ByteArray := prog_5_method_32_code
def yX3_sumUpTo : MethodName := ⟨RX3, "sumUpTo", "(I)I"⟩
theorem dX3_init_0 : decode cX3_init 0 = .ok (.aload_n 0, 1) := by decide +kernel
theorem dX3_init_1 : decode cX3_init 1 = .ok (.invokespecial 3, 3) := by decide +kernel
theorem dX3_init_4 : decode cX3_init 4 = .ok (.aload_n 0, 1) := by decide +kernel
theorem dX3_init_5 : decode cX3_init 5 = .ok (.bipush 9, 2) := by decide +kernel
theorem dX3_init_7 : decode cX3_init 7 = .ok (.newarray .int, 2) := by decide +kernel
theorem dX3_init_9 : decode cX3_init 9 = .ok (.putfield 9, 3) := by decide +kernel
theorem dX3_init_12 : decode cX3_init 12 = .ok (.aload_n 0, 1) := by decide +kernel
theorem dX3_init_13 : decode cX3_init 13 = .ok (.bipush 9, 2) := by decide +kernel
theorem dX3_init_15 : decode cX3_init 15 = .ok (.newarray .int, 2) := by decide +kernel
theorem dX3_init_17 : decode cX3_init 17 = .ok (.putfield 15, 3) := by decide +kernel
theorem dX3_init_20 : decode cX3_init 20 = .ok (.return_, 1) := by decide +kernel
theorem dX3_all_0 : decode cX3_all 0 = .ok (.aload_n 0, 1) := by decide +kernel
theorem dX3_all_1 : decode cX3_all 1 = .ok (.invokevirtual 18, 3) := by decide +kernel
theorem dX3_all_4 : decode cX3_all 4 = .ok (.iconst 1, 1) := by decide +kernel
theorem dX3_all_5 : decode cX3_all 5 = .ok (.isub, 1) := by decide +kernel
theorem dX3_all_6 : decode cX3_all 6 = .ok (.ireturn, 1) := by decide +kernel
theorem dX3_setLimit_0 : decode cX3_setLimit 0 = .ok (.iconst 1, 1) := by decide +kernel
theorem dX3_setLimit_1 : decode cX3_setLimit 1 = .ok (.aload_n 0, 1) := by decide +kernel
theorem dX3_setLimit_2 : decode cX3_setLimit 2 = .ok (.getfield 22, 3) := by decide +kernel
theorem dX3_setLimit_5 : decode cX3_setLimit 5 = .ok (.ishl, 1) := by decide +kernel
theorem dX3_setLimit_6 : decode cX3_setLimit 6 = .ok (.ireturn, 1) := by decide +kernel
theorem dX3_hasThing_0 : decode cX3_hasThing 0 = .ok (.iload_n 1, 1) := by decide +kernel
theorem dX3_hasThing_1 : decode cX3_hasThing 1 = .ok (.ifCond .lt 15, 3) := by decide +kernel
theorem dX3_hasThing_4 : decode cX3_hasThing 4 = .ok (.iload_n 1, 1) := by decide +kernel
theorem dX3_hasThing_5 : decode cX3_hasThing 5 = .ok (.aload_n 0, 1) := by decide +kernel
theorem dX3_hasThing_6 : decode cX3_hasThing 6 = .ok (.getfield 22, 3) := by decide +kernel
theorem dX3_hasThing_9 : decode cX3_hasThing 9 = .ok (.if_icmp .ge 7, 3) := by decide +kernel
theorem dX3_hasThing_12 : decode cX3_hasThing 12 = .ok (.iconst 1, 1) := by decide +kernel
theorem dX3_hasThing_13 : decode cX3_hasThing 13 = .ok (.goto 4, 3) := by decide +kernel
theorem dX3_hasThing_16 : decode cX3_hasThing 16 = .ok (.iconst 0, 1) := by decide +kernel
theorem dX3_hasThing_17 : decode cX3_hasThing 17 = .ok (.ireturn, 1) := by decide +kernel
theorem dX3_clearTo_0 : decode cX3_clearTo 0 = .ok (.aload_n 0, 1) := by decide +kernel
theorem dX3_clearTo_1 : decode cX3_clearTo 1 = .ok (.iload_n 1, 1) := by decide +kernel
theorem dX3_clearTo_2 : decode cX3_clearTo 2 = .ok (.putfield 22, 3) := by decide +kernel
theorem dX3_clearTo_5 : decode cX3_clearTo 5 = .ok (.iconst 0, 1) := by decide +kernel
theorem dX3_clearTo_6 : decode cX3_clearTo 6 = .ok (.istore_n 2, 1) := by decide +kernel
theorem dX3_clearTo_7 : decode cX3_clearTo 7 = .ok (.iload_n 2, 1) := by decide +kernel
theorem dX3_clearTo_8 : decode cX3_clearTo 8 = .ok (.bipush 9, 2) := by decide +kernel
theorem dX3_clearTo_10 : decode cX3_clearTo 10 = .ok (.if_icmp .ge 23, 3) := by decide +kernel
theorem dX3_clearTo_13 : decode cX3_clearTo 13 = .ok (.aload_n 0, 1) := by decide +kernel
theorem dX3_clearTo_14 : decode cX3_clearTo 14 = .ok (.getfield 9, 3) := by decide +kernel
theorem dX3_clearTo_17 : decode cX3_clearTo 17 = .ok (.iload_n 2, 1) := by decide +kernel
theorem dX3_clearTo_18 : decode cX3_clearTo 18 = .ok (.iconst 0, 1) := by decide +kernel
theorem dX3_clearTo_19 : decode cX3_clearTo 19 = .ok (.iastore, 1) := by decide +kernel
theorem dX3_clearTo_20 : decode cX3_clearTo 20 = .ok (.aload_n 0, 1) := by decide +kernel
theorem dX3_clearTo_21 : decode cX3_clearTo 21 = .ok (.getfield 15, 3) := by decide +kernel
theorem dX3_clearTo_24 : decode cX3_clearTo 24 = .ok (.iload_n 2, 1) := by decide +kernel
theorem dX3_clearTo_25 : decode cX3_clearTo 25 = .ok (.iconst 0, 1) := by decide +kernel
theorem dX3_clearTo_26 : decode cX3_clearTo 26 = .ok (.iastore, 1) := by decide +kernel
theorem dX3_clearTo_27 : decode cX3_clearTo 27 = .ok (.iinc 2 1, 3) := by decide +kernel
theorem dX3_clearTo_30 : decode cX3_clearTo 30 = .ok (.goto (-23), 3) := by decide +kernel
theorem dX3_clearTo_33 : decode cX3_clearTo 33 = .ok (.return_, 1) := by decide +kernel
theorem dX3_lineUp_0 : decode cX3_lineUp 0 = .ok (.iconst 0, 1) := by decide +kernel
theorem dX3_lineUp_1 : decode cX3_lineUp 1 = .ok (.istore_n 1, 1) := by decide +kernel
theorem dX3_lineUp_2 : decode cX3_lineUp 2 = .ok (.iload_n 1, 1) := by decide +kernel
theorem dX3_lineUp_3 : decode cX3_lineUp 3 = .ok (.aload_n 0, 1) := by decide +kernel
theorem dX3_lineUp_4 : decode cX3_lineUp 4 = .ok (.getfield 22, 3) := by decide +kernel
theorem dX3_lineUp_7 : decode cX3_lineUp 7 = .ok (.if_icmp .ge 20, 3) := by decide +kernel
theorem dX3_lineUp_10 : decode cX3_lineUp 10 = .ok (.aload_n 0, 1) := by decide +kernel
theorem dX3_lineUp_11 : decode cX3_lineUp 11 = .ok (.getfield 9, 3) := by decide +kernel
theorem dX3_lineUp_14 : decode cX3_lineUp 14 = .ok (.iload_n 1, 1) := by decide +kernel
theorem dX3_lineUp_15 : decode cX3_lineUp 15 = .ok (.iconst 1, 1) := by decide +kernel
theorem dX3_lineUp_16 : decode cX3_lineUp 16 = .ok (.iload_n 1, 1) := by decide +kernel
theorem dX3_lineUp_17 : decode cX3_lineUp 17 = .ok (.ishl, 1) := by decide +kernel
theorem dX3_lineUp_18 : decode cX3_lineUp 18 = .ok (.iconst 1, 1) := by decide +kernel
theorem dX3_lineUp_19 : decode cX3_lineUp 19 = .ok (.isub, 1) := by decide +kernel
theorem dX3_lineUp_20 : decode cX3_lineUp 20 = .ok (.iastore, 1) := by decide +kernel
theorem dX3_lineUp_21 : decode cX3_lineUp 21 = .ok (.iinc 1 1, 3) := by decide +kernel
theorem dX3_lineUp_24 : decode cX3_lineUp 24 = .ok (.goto (-22), 3) := by decide +kernel
theorem dX3_lineUp_27 : decode cX3_lineUp 27 = .ok (.return_, 1) := by decide +kernel
theorem dX3_standAs_0 : decode cX3_standAs 0 = .ok (.iconst 0, 1) := by decide +kernel
theorem dX3_standAs_1 : decode cX3_standAs 1 = .ok (.istore_n 2, 1) := by decide +kernel
theorem dX3_standAs_2 : decode cX3_standAs 2 = .ok (.iconst 0, 1) := by decide +kernel
theorem dX3_standAs_3 : decode cX3_standAs 3 = .ok (.istore_n 3, 1) := by decide +kernel
theorem dX3_standAs_4 : decode cX3_standAs 4 = .ok (.iload_n 3, 1) := by decide +kernel
theorem dX3_standAs_5 : decode cX3_standAs 5 = .ok (.aload_n 0, 1) := by decide +kernel
theorem dX3_standAs_6 : decode cX3_standAs 6 = .ok (.getfield 22, 3) := by decide +kernel
theorem dX3_standAs_9 : decode cX3_standAs 9 = .ok (.if_icmp .ge 26, 3) := by decide +kernel
theorem dX3_standAs_12 : decode cX3_standAs 12 = .ok (.aload_n 0, 1) := by decide +kernel
theorem dX3_standAs_13 : decode cX3_standAs 13 = .ok (.getfield 9, 3) := by decide +kernel
theorem dX3_standAs_16 : decode cX3_standAs 16 = .ok (.aload_n 1, 1) := by decide +kernel
theorem dX3_standAs_17 : decode cX3_standAs 17 = .ok (.iload_n 3, 1) := by decide +kernel
theorem dX3_standAs_18 : decode cX3_standAs 18 = .ok (.iaload, 1) := by decide +kernel
theorem dX3_standAs_19 : decode cX3_standAs 19 = .ok (.iload_n 2, 1) := by decide +kernel
theorem dX3_standAs_20 : decode cX3_standAs 20 = .ok (.iastore, 1) := by decide +kernel
theorem dX3_standAs_21 : decode cX3_standAs 21 = .ok (.iload_n 2, 1) := by decide +kernel
theorem dX3_standAs_22 : decode cX3_standAs 22 = .ok (.iconst 1, 1) := by decide +kernel
theorem dX3_standAs_23 : decode cX3_standAs 23 = .ok (.aload_n 1, 1) := by decide +kernel
theorem dX3_standAs_24 : decode cX3_standAs 24 = .ok (.iload_n 3, 1) := by decide +kernel
theorem dX3_standAs_25 : decode cX3_standAs 25 = .ok (.iaload, 1) := by decide +kernel
theorem dX3_standAs_26 : decode cX3_standAs 26 = .ok (.ishl, 1) := by decide +kernel
theorem dX3_standAs_27 : decode cX3_standAs 27 = .ok (.ior, 1) := by decide +kernel
theorem dX3_standAs_28 : decode cX3_standAs 28 = .ok (.istore_n 2, 1) := by decide +kernel
theorem dX3_standAs_29 : decode cX3_standAs 29 = .ok (.iinc 3 1, 3) := by decide +kernel
theorem dX3_standAs_32 : decode cX3_standAs 32 = .ok (.goto (-28), 3) := by decide +kernel
theorem dX3_standAs_35 : decode cX3_standAs 35 = .ok (.return_, 1) := by decide +kernel
theorem dX3_append_0 : decode cX3_append 0 = .ok (.aload_n 0, 1) := by decide +kernel
theorem dX3_append_1 : decode cX3_append 1 = .ok (.getfield 22, 3) := by decide +kernel
theorem dX3_append_4 : decode cX3_append 4 = .ok (.istore_n 2, 1) := by decide +kernel
theorem dX3_append_5 : decode cX3_append 5 = .ok (.aload_n 0, 1) := by decide +kernel
theorem dX3_append_6 : decode cX3_append 6 = .ok (.getfield 9, 3) := by decide +kernel
theorem dX3_append_9 : decode cX3_append 9 = .ok (.iload_n 2, 1) := by decide +kernel
theorem dX3_append_10 : decode cX3_append 10 = .ok (.iconst 0, 1) := by decide +kernel
theorem dX3_append_11 : decode cX3_append 11 = .ok (.iastore, 1) := by decide +kernel
theorem dX3_append_12 : decode cX3_append 12 = .ok (.aload_n 0, 1) := by decide +kernel
theorem dX3_append_13 : decode cX3_append 13 = .ok (.getfield 15, 3) := by decide +kernel
theorem dX3_append_16 : decode cX3_append 16 = .ok (.iload_n 2, 1) := by decide +kernel
theorem dX3_append_17 : decode cX3_append 17 = .ok (.iload_n 1, 1) := by decide +kernel
theorem dX3_append_18 : decode cX3_append 18 = .ok (.iastore, 1) := by decide +kernel
theorem dX3_append_19 : decode cX3_append 19 = .ok (.aload_n 0, 1) := by decide +kernel
theorem dX3_append_20 : decode cX3_append 20 = .ok (.dup, 1) := by decide +kernel
theorem dX3_append_21 : decode cX3_append 21 = .ok (.getfield 22, 3) := by decide +kernel
theorem dX3_append_24 : decode cX3_append 24 = .ok (.iconst 1, 1) := by decide +kernel
theorem dX3_append_25 : decode cX3_append 25 = .ok (.iadd, 1) := by decide +kernel
theorem dX3_append_26 : decode cX3_append 26 = .ok (.putfield 22, 3) := by decide +kernel
theorem dX3_append_29 : decode cX3_append 29 = .ok (.iload_n 2, 1) := by decide +kernel
theorem dX3_append_30 : decode cX3_append 30 = .ok (.ireturn, 1) := by decide +kernel
theorem dX3_retain_0 : decode cX3_retain 0 = .ok (.iconst 0, 1) := by decide +kernel
theorem dX3_retain_1 : decode cX3_retain 1 = .ok (.istore_n 2, 1) := by decide +kernel
theorem dX3_retain_2 : decode cX3_retain 2 = .ok (.iconst 0, 1) := by decide +kernel
theorem dX3_retain_3 : decode cX3_retain 3 = .ok (.istore_n 3, 1) := by decide +kernel
theorem dX3_retain_4 : decode cX3_retain 4 = .ok (.iload_n 3, 1) := by decide +kernel
theorem dX3_retain_5 : decode cX3_retain 5 = .ok (.aload_n 0, 1) := by decide +kernel
theorem dX3_retain_6 : decode cX3_retain 6 = .ok (.getfield 22, 3) := by decide +kernel
theorem dX3_retain_9 : decode cX3_retain 9 = .ok (.if_icmp .ge 48, 3) := by decide +kernel
theorem dX3_retain_12 : decode cX3_retain 12 = .ok (.iload_n 1, 1) := by decide +kernel
theorem dX3_retain_13 : decode cX3_retain 13 = .ok (.iload_n 3, 1) := by decide +kernel
theorem dX3_retain_14 : decode cX3_retain 14 = .ok (.invokestatic 26, 3) := by decide +kernel
theorem dX3_retain_17 : decode cX3_retain 17 = .ok (.ifCond .eq 34, 3) := by decide +kernel
theorem dX3_retain_20 : decode cX3_retain 20 = .ok (.aload_n 0, 1) := by decide +kernel
theorem dX3_retain_21 : decode cX3_retain 21 = .ok (.getfield 9, 3) := by decide +kernel
theorem dX3_retain_24 : decode cX3_retain 24 = .ok (.iload_n 2, 1) := by decide +kernel
theorem dX3_retain_25 : decode cX3_retain 25 = .ok (.aload_n 0, 1) := by decide +kernel
theorem dX3_retain_26 : decode cX3_retain 26 = .ok (.getfield 9, 3) := by decide +kernel
theorem dX3_retain_29 : decode cX3_retain 29 = .ok (.iload_n 3, 1) := by decide +kernel
theorem dX3_retain_30 : decode cX3_retain 30 = .ok (.iaload, 1) := by decide +kernel
theorem dX3_retain_31 : decode cX3_retain 31 = .ok (.iload_n 1, 1) := by decide +kernel
theorem dX3_retain_32 : decode cX3_retain 32 = .ok (.invokestatic 30, 3) := by decide +kernel
theorem dX3_retain_35 : decode cX3_retain 35 = .ok (.iastore, 1) := by decide +kernel
theorem dX3_retain_36 : decode cX3_retain 36 = .ok (.aload_n 0, 1) := by decide +kernel
theorem dX3_retain_37 : decode cX3_retain 37 = .ok (.getfield 15, 3) := by decide +kernel
theorem dX3_retain_40 : decode cX3_retain 40 = .ok (.iload_n 2, 1) := by decide +kernel
theorem dX3_retain_41 : decode cX3_retain 41 = .ok (.aload_n 0, 1) := by decide +kernel
theorem dX3_retain_42 : decode cX3_retain 42 = .ok (.getfield 15, 3) := by decide +kernel
theorem dX3_retain_45 : decode cX3_retain 45 = .ok (.iload_n 3, 1) := by decide +kernel
theorem dX3_retain_46 : decode cX3_retain 46 = .ok (.iaload, 1) := by decide +kernel
theorem dX3_retain_47 : decode cX3_retain 47 = .ok (.iastore, 1) := by decide +kernel
theorem dX3_retain_48 : decode cX3_retain 48 = .ok (.iinc 2 1, 3) := by decide +kernel
theorem dX3_retain_51 : decode cX3_retain 51 = .ok (.iinc 3 1, 3) := by decide +kernel
theorem dX3_retain_54 : decode cX3_retain 54 = .ok (.goto (-50), 3) := by decide +kernel
theorem dX3_retain_57 : decode cX3_retain 57 = .ok (.aload_n 0, 1) := by decide +kernel
theorem dX3_retain_58 : decode cX3_retain 58 = .ok (.iload_n 2, 1) := by decide +kernel
theorem dX3_retain_59 : decode cX3_retain 59 = .ok (.putfield 22, 3) := by decide +kernel
theorem dX3_retain_62 : decode cX3_retain 62 = .ok (.return_, 1) := by decide +kernel
theorem dX3_squeezed_0 : decode cX3_squeezed 0 = .ok (.iconst 0, 1) := by decide +kernel
theorem dX3_squeezed_1 : decode cX3_squeezed 1 = .ok (.istore_n 2, 1) := by decide +kernel
theorem dX3_squeezed_2 : decode cX3_squeezed 2 = .ok (.iconst 0, 1) := by decide +kernel
theorem dX3_squeezed_3 : decode cX3_squeezed 3 = .ok (.istore_n 3, 1) := by decide +kernel
theorem dX3_squeezed_4 : decode cX3_squeezed 4 = .ok (.iconst 0, 1) := by decide +kernel
theorem dX3_squeezed_5 : decode cX3_squeezed 5 = .ok (.istore 4, 2) := by decide +kernel
theorem dX3_squeezed_7 : decode cX3_squeezed 7 = .ok (.iload 4, 2) := by decide +kernel
theorem dX3_squeezed_9 : decode cX3_squeezed 9 = .ok (.bipush 9, 2) := by decide +kernel
theorem dX3_squeezed_11 : decode cX3_squeezed 11 = .ok (.if_icmp .ge 36, 3) := by decide +kernel
theorem dX3_squeezed_14 : decode cX3_squeezed 14 = .ok (.iload_n 1, 1) := by decide +kernel
theorem dX3_squeezed_15 : decode cX3_squeezed 15 = .ok (.iload 4, 2) := by decide +kernel
theorem dX3_squeezed_17 : decode cX3_squeezed 17 = .ok (.invokestatic 26, 3) := by decide +kernel
theorem dX3_squeezed_20 : decode cX3_squeezed 20 = .ok (.ifCond .eq 21, 3) := by decide +kernel
theorem dX3_squeezed_23 : decode cX3_squeezed 23 = .ok (.iload_n 0, 1) := by decide +kernel
theorem dX3_squeezed_24 : decode cX3_squeezed 24 = .ok (.iload 4, 2) := by decide +kernel
theorem dX3_squeezed_26 : decode cX3_squeezed 26 = .ok (.invokestatic 26, 3) := by decide +kernel
theorem dX3_squeezed_29 : decode cX3_squeezed 29 = .ok (.ifCond .eq 9, 3) := by decide +kernel
theorem dX3_squeezed_32 : decode cX3_squeezed 32 = .ok (.iload_n 2, 1) := by decide +kernel
theorem dX3_squeezed_33 : decode cX3_squeezed 33 = .ok (.iconst 1, 1) := by decide +kernel
theorem dX3_squeezed_34 : decode cX3_squeezed 34 = .ok (.iload_n 3, 1) := by decide +kernel
theorem dX3_squeezed_35 : decode cX3_squeezed 35 = .ok (.ishl, 1) := by decide +kernel
theorem dX3_squeezed_36 : decode cX3_squeezed 36 = .ok (.ior, 1) := by decide +kernel
theorem dX3_squeezed_37 : decode cX3_squeezed 37 = .ok (.istore_n 2, 1) := by decide +kernel
theorem dX3_squeezed_38 : decode cX3_squeezed 38 = .ok (.iinc 3 1, 3) := by decide +kernel
theorem dX3_squeezed_41 : decode cX3_squeezed 41 = .ok (.iinc 4 1, 3) := by decide +kernel
theorem dX3_squeezed_44 : decode cX3_squeezed 44 = .ok (.goto (-37), 3) := by decide +kernel
theorem dX3_squeezed_47 : decode cX3_squeezed 47 = .ok (.iload_n 2, 1) := by decide +kernel
theorem dX3_squeezed_48 : decode cX3_squeezed 48 = .ok (.ireturn, 1) := by decide +kernel
theorem dX3_link_0 : decode cX3_link 0 = .ok (.iload_n 1, 1) := by decide +kernel
theorem dX3_link_1 : decode cX3_link 1 = .ok (.iload_n 2, 1) := by decide +kernel
theorem dX3_link_2 : decode cX3_link 2 = .ok (.if_icmp .eq 12, 3) := by decide +kernel
theorem dX3_link_5 : decode cX3_link 5 = .ok (.aload_n 0, 1) := by decide +kernel
theorem dX3_link_6 : decode cX3_link 6 = .ok (.iload_n 2, 1) := by decide +kernel
theorem dX3_link_7 : decode cX3_link 7 = .ok (.iload_n 1, 1) := by decide +kernel
theorem dX3_link_8 : decode cX3_link 8 = .ok (.invokevirtual 34, 3) := by decide +kernel
theorem dX3_link_11 : decode cX3_link 11 = .ok (.ifCond .eq 6, 3) := by decide +kernel
theorem dX3_link_14 : decode cX3_link 14 = .ok (.bipush (-9), 2) := by decide +kernel
theorem dX3_link_16 : decode cX3_link 16 = .ok (.ireturn, 1) := by decide +kernel
theorem dX3_link_17 : decode cX3_link 17 = .ok (.aload_n 0, 1) := by decide +kernel
theorem dX3_link_18 : decode cX3_link 18 = .ok (.invokevirtual 37, 3) := by decide +kernel
theorem dX3_link_21 : decode cX3_link 21 = .ok (.istore_n 3, 1) := by decide +kernel
theorem dX3_link_22 : decode cX3_link 22 = .ok (.aload_n 0, 1) := by decide +kernel
theorem dX3_link_23 : decode cX3_link 23 = .ok (.getfield 9, 3) := by decide +kernel
theorem dX3_link_26 : decode cX3_link 26 = .ok (.iload_n 1, 1) := by decide +kernel
theorem dX3_link_27 : decode cX3_link 27 = .ok (.iaload, 1) := by decide +kernel
theorem dX3_link_28 : decode cX3_link 28 = .ok (.iconst 1, 1) := by decide +kernel
theorem dX3_link_29 : decode cX3_link 29 = .ok (.iload_n 1, 1) := by decide +kernel
theorem dX3_link_30 : decode cX3_link 30 = .ok (.ishl, 1) := by decide +kernel
theorem dX3_link_31 : decode cX3_link 31 = .ok (.ior, 1) := by decide +kernel
theorem dX3_link_32 : decode cX3_link 32 = .ok (.istore 4, 2) := by decide +kernel
theorem dX3_link_34 : decode cX3_link 34 = .ok (.iconst 0, 1) := by decide +kernel
theorem dX3_link_35 : decode cX3_link 35 = .ok (.istore 5, 2) := by decide +kernel
theorem dX3_link_37 : decode cX3_link 37 = .ok (.iload 5, 2) := by decide +kernel
theorem dX3_link_39 : decode cX3_link 39 = .ok (.aload_n 0, 1) := by decide +kernel
theorem dX3_link_40 : decode cX3_link 40 = .ok (.getfield 22, 3) := by decide +kernel
theorem dX3_link_43 : decode cX3_link 43 = .ok (.if_icmp .ge 37, 3) := by decide +kernel
theorem dX3_link_46 : decode cX3_link 46 = .ok (.iload 5, 2) := by decide +kernel
theorem dX3_link_48 : decode cX3_link 48 = .ok (.iload_n 2, 1) := by decide +kernel
theorem dX3_link_49 : decode cX3_link 49 = .ok (.if_icmp .eq 13, 3) := by decide +kernel
theorem dX3_link_52 : decode cX3_link 52 = .ok (.aload_n 0, 1) := by decide +kernel
theorem dX3_link_53 : decode cX3_link 53 = .ok (.iload_n 2, 1) := by decide +kernel
theorem dX3_link_54 : decode cX3_link 54 = .ok (.iload 5, 2) := by decide +kernel
theorem dX3_link_56 : decode cX3_link 56 = .ok (.invokevirtual 34, 3) := by decide +kernel
theorem dX3_link_59 : decode cX3_link 59 = .ok (.ifCond .eq 15, 3) := by decide +kernel
theorem dX3_link_62 : decode cX3_link 62 = .ok (.aload_n 0, 1) := by decide +kernel
theorem dX3_link_63 : decode cX3_link 63 = .ok (.getfield 9, 3) := by decide +kernel
theorem dX3_link_66 : decode cX3_link 66 = .ok (.iload 5, 2) := by decide +kernel
theorem dX3_link_68 : decode cX3_link 68 = .ok (.dup2, 1) := by decide +kernel
theorem dX3_link_69 : decode cX3_link 69 = .ok (.iaload, 1) := by decide +kernel
theorem dX3_link_70 : decode cX3_link 70 = .ok (.iload 4, 2) := by decide +kernel
theorem dX3_link_72 : decode cX3_link 72 = .ok (.ior, 1) := by decide +kernel
theorem dX3_link_73 : decode cX3_link 73 = .ok (.iastore, 1) := by decide +kernel
theorem dX3_link_74 : decode cX3_link 74 = .ok (.iinc 5 1, 3) := by decide +kernel
theorem dX3_link_77 : decode cX3_link 77 = .ok (.goto (-40), 3) := by decide +kernel
theorem dX3_link_80 : decode cX3_link 80 = .ok (.aload_n 0, 1) := by decide +kernel
theorem dX3_link_81 : decode cX3_link 81 = .ok (.invokevirtual 37, 3) := by decide +kernel
theorem dX3_link_84 : decode cX3_link 84 = .ok (.iload_n 3, 1) := by decide +kernel
theorem dX3_link_85 : decode cX3_link 85 = .ok (.isub, 1) := by decide +kernel
theorem dX3_link_86 : decode cX3_link 86 = .ok (.ireturn, 1) := by decide +kernel
theorem dX3_cut_0 : decode cX3_cut 0 = .ok (.aload_n 0, 1) := by decide +kernel
theorem dX3_cut_1 : decode cX3_cut 1 = .ok (.getfield 9, 3) := by decide +kernel
theorem dX3_cut_4 : decode cX3_cut 4 = .ok (.iload_n 2, 1) := by decide +kernel
theorem dX3_cut_5 : decode cX3_cut 5 = .ok (.dup2, 1) := by decide +kernel
theorem dX3_cut_6 : decode cX3_cut 6 = .ok (.iaload, 1) := by decide +kernel
theorem dX3_cut_7 : decode cX3_cut 7 = .ok (.iconst 1, 1) := by decide +kernel
theorem dX3_cut_8 : decode cX3_cut 8 = .ok (.iload_n 1, 1) := by decide +kernel
theorem dX3_cut_9 : decode cX3_cut 9 = .ok (.ishl, 1) := by decide +kernel
theorem dX3_cut_10 : decode cX3_cut 10 = .ok (.iconst (-1), 1) := by decide +kernel
theorem dX3_cut_11 : decode cX3_cut 11 = .ok (.ixor, 1) := by decide +kernel
theorem dX3_cut_12 : decode cX3_cut 12 = .ok (.iand, 1) := by decide +kernel
theorem dX3_cut_13 : decode cX3_cut 13 = .ok (.iastore, 1) := by decide +kernel
theorem dX3_cut_14 : decode cX3_cut 14 = .ok (.return_, 1) := by decide +kernel
theorem dX3_become_0 : decode cX3_become 0 = .ok (.aload_n 0, 1) := by decide +kernel
theorem dX3_become_1 : decode cX3_become 1 = .ok (.aload_n 1, 1) := by decide +kernel
theorem dX3_become_2 : decode cX3_become 2 = .ok (.getfield 22, 3) := by decide +kernel
theorem dX3_become_5 : decode cX3_become 5 = .ok (.putfield 22, 3) := by decide +kernel
theorem dX3_become_8 : decode cX3_become 8 = .ok (.iconst 0, 1) := by decide +kernel
theorem dX3_become_9 : decode cX3_become 9 = .ok (.istore_n 2, 1) := by decide +kernel
theorem dX3_become_10 : decode cX3_become 10 = .ok (.iload_n 2, 1) := by decide +kernel
theorem dX3_become_11 : decode cX3_become 11 = .ok (.bipush 9, 2) := by decide +kernel
theorem dX3_become_13 : decode cX3_become 13 = .ok (.if_icmp .ge 33, 3) := by decide +kernel
theorem dX3_become_16 : decode cX3_become 16 = .ok (.aload_n 0, 1) := by decide +kernel
theorem dX3_become_17 : decode cX3_become 17 = .ok (.getfield 9, 3) := by decide +kernel
theorem dX3_become_20 : decode cX3_become 20 = .ok (.iload_n 2, 1) := by decide +kernel
theorem dX3_become_21 : decode cX3_become 21 = .ok (.aload_n 1, 1) := by decide +kernel
theorem dX3_become_22 : decode cX3_become 22 = .ok (.getfield 9, 3) := by decide +kernel
theorem dX3_become_25 : decode cX3_become 25 = .ok (.iload_n 2, 1) := by decide +kernel
theorem dX3_become_26 : decode cX3_become 26 = .ok (.iaload, 1) := by decide +kernel
theorem dX3_become_27 : decode cX3_become 27 = .ok (.iastore, 1) := by decide +kernel
theorem dX3_become_28 : decode cX3_become 28 = .ok (.aload_n 0, 1) := by decide +kernel
theorem dX3_become_29 : decode cX3_become 29 = .ok (.getfield 15, 3) := by decide +kernel
theorem dX3_become_32 : decode cX3_become 32 = .ok (.iload_n 2, 1) := by decide +kernel
theorem dX3_become_33 : decode cX3_become 33 = .ok (.aload_n 1, 1) := by decide +kernel
theorem dX3_become_34 : decode cX3_become 34 = .ok (.getfield 15, 3) := by decide +kernel
theorem dX3_become_37 : decode cX3_become 37 = .ok (.iload_n 2, 1) := by decide +kernel
theorem dX3_become_38 : decode cX3_become 38 = .ok (.iaload, 1) := by decide +kernel
theorem dX3_become_39 : decode cX3_become 39 = .ok (.iastore, 1) := by decide +kernel
theorem dX3_become_40 : decode cX3_become 40 = .ok (.iinc 2 1, 3) := by decide +kernel
theorem dX3_become_43 : decode cX3_become 43 = .ok (.goto (-33), 3) := by decide +kernel
theorem dX3_become_46 : decode cX3_become 46 = .ok (.return_, 1) := by decide +kernel
theorem dX3_becomeTurned_0 : decode cX3_becomeTurned 0 = .ok (.aload_n 0, 1) := by decide +kernel
theorem dX3_becomeTurned_1 : decode cX3_becomeTurned 1 = .ok (.aload_n 1, 1) := by decide +kernel
theorem dX3_becomeTurned_2 : decode cX3_becomeTurned 2 = .ok (.getfield 22, 3) := by decide +kernel
theorem dX3_becomeTurned_5 : decode cX3_becomeTurned 5 = .ok (.invokevirtual 40, 3) := by decide +kernel
theorem dX3_becomeTurned_8 : decode cX3_becomeTurned 8 = .ok (.iconst 0, 1) := by decide +kernel
theorem dX3_becomeTurned_9 : decode cX3_becomeTurned 9 = .ok (.istore_n 2, 1) := by decide +kernel
theorem dX3_becomeTurned_10 : decode cX3_becomeTurned 10 = .ok (.iload_n 2, 1) := by decide +kernel
theorem dX3_becomeTurned_11 : decode cX3_becomeTurned 11 = .ok (.aload_n 0, 1) := by decide +kernel
theorem dX3_becomeTurned_12 : decode cX3_becomeTurned 12 = .ok (.getfield 22, 3) := by decide +kernel
theorem dX3_becomeTurned_15 : decode cX3_becomeTurned 15 = .ok (.if_icmp .ge 32, 3) := by decide +kernel
theorem dX3_becomeTurned_18 : decode cX3_becomeTurned 18 = .ok (.aload_n 0, 1) := by decide +kernel
theorem dX3_becomeTurned_19 : decode cX3_becomeTurned 19 = .ok (.getfield 9, 3) := by decide +kernel
theorem dX3_becomeTurned_22 : decode cX3_becomeTurned 22 = .ok (.iload_n 2, 1) := by decide +kernel
theorem dX3_becomeTurned_23 : decode cX3_becomeTurned 23 = .ok (.aload_n 1, 1) := by decide +kernel
theorem dX3_becomeTurned_24 : decode cX3_becomeTurned 24 = .ok (.iload_n 2, 1) := by decide +kernel
theorem dX3_becomeTurned_25 : decode cX3_becomeTurned 25 = .ok (.invokevirtual 44, 3) := by decide +kernel
theorem dX3_becomeTurned_28 : decode cX3_becomeTurned 28 = .ok (.iastore, 1) := by decide +kernel
theorem dX3_becomeTurned_29 : decode cX3_becomeTurned 29 = .ok (.aload_n 0, 1) := by decide +kernel
theorem dX3_becomeTurned_30 : decode cX3_becomeTurned 30 = .ok (.getfield 15, 3) := by decide +kernel
theorem dX3_becomeTurned_33 : decode cX3_becomeTurned 33 = .ok (.iload_n 2, 1) := by decide +kernel
theorem dX3_becomeTurned_34 : decode cX3_becomeTurned 34 = .ok (.aload_n 1, 1) := by decide +kernel
theorem dX3_becomeTurned_35 : decode cX3_becomeTurned 35 = .ok (.getfield 15, 3) := by decide +kernel
theorem dX3_becomeTurned_38 : decode cX3_becomeTurned 38 = .ok (.iload_n 2, 1) := by decide +kernel
theorem dX3_becomeTurned_39 : decode cX3_becomeTurned 39 = .ok (.iaload, 1) := by decide +kernel
theorem dX3_becomeTurned_40 : decode cX3_becomeTurned 40 = .ok (.iastore, 1) := by decide +kernel
theorem dX3_becomeTurned_41 : decode cX3_becomeTurned 41 = .ok (.iinc 2 1, 3) := by decide +kernel
theorem dX3_becomeTurned_44 : decode cX3_becomeTurned 44 = .ok (.goto (-34), 3) := by decide +kernel
theorem dX3_becomeTurned_47 : decode cX3_becomeTurned 47 = .ok (.return_, 1) := by decide +kernel
theorem dX3_becomeJoined_0 : decode cX3_becomeJoined 0 = .ok (.aload_n 1, 1) := by decide +kernel
theorem dX3_becomeJoined_1 : decode cX3_becomeJoined 1 = .ok (.getfield 22, 3) := by decide +kernel
theorem dX3_becomeJoined_4 : decode cX3_becomeJoined 4 = .ok (.istore 4, 2) := by decide +kernel
theorem dX3_becomeJoined_6 : decode cX3_becomeJoined 6 = .ok (.aload_n 0, 1) := by decide +kernel
theorem dX3_becomeJoined_7 : decode cX3_becomeJoined 7 = .ok (.bipush 9, 2) := by decide +kernel
theorem dX3_becomeJoined_9 : decode cX3_becomeJoined 9 = .ok (.iload 4, 2) := by decide +kernel
theorem dX3_becomeJoined_11 : decode cX3_becomeJoined 11 = .ok (.aload_n 2, 1) := by decide +kernel
theorem dX3_becomeJoined_12 : decode cX3_becomeJoined 12 = .ok (.getfield 22, 3) := by decide +kernel
theorem dX3_becomeJoined_15 : decode cX3_becomeJoined 15 = .ok (.iadd, 1) := by decide +kernel
theorem dX3_becomeJoined_16 : decode cX3_becomeJoined 16 = .ok (.invokestatic 48, 3) := by decide +kernel
theorem dX3_becomeJoined_19 : decode cX3_becomeJoined 19 = .ok (.invokevirtual 40, 3) := by decide +kernel
theorem dX3_becomeJoined_22 : decode cX3_becomeJoined 22 = .ok (.iconst 0, 1) := by decide +kernel
theorem dX3_becomeJoined_23 : decode cX3_becomeJoined 23 = .ok (.istore 5, 2) := by decide +kernel
theorem dX3_becomeJoined_25 : decode cX3_becomeJoined 25 = .ok (.iload 5, 2) := by decide +kernel
theorem dX3_becomeJoined_27 : decode cX3_becomeJoined 27 = .ok (.iload 4, 2) := by decide +kernel
theorem dX3_becomeJoined_29 : decode cX3_becomeJoined 29 = .ok (.if_icmp .ge 37, 3) := by decide +kernel
theorem dX3_becomeJoined_32 : decode cX3_becomeJoined 32 = .ok (.aload_n 0, 1) := by decide +kernel
theorem dX3_becomeJoined_33 : decode cX3_becomeJoined 33 = .ok (.getfield 9, 3) := by decide +kernel
theorem dX3_becomeJoined_36 : decode cX3_becomeJoined 36 = .ok (.iload 5, 2) := by decide +kernel
theorem dX3_becomeJoined_38 : decode cX3_becomeJoined 38 = .ok (.aload_n 1, 1) := by decide +kernel
theorem dX3_becomeJoined_39 : decode cX3_becomeJoined 39 = .ok (.getfield 9, 3) := by decide +kernel
theorem dX3_becomeJoined_42 : decode cX3_becomeJoined 42 = .ok (.iload 5, 2) := by decide +kernel
theorem dX3_becomeJoined_44 : decode cX3_becomeJoined 44 = .ok (.iaload, 1) := by decide +kernel
theorem dX3_becomeJoined_45 : decode cX3_becomeJoined 45 = .ok (.iastore, 1) := by decide +kernel
theorem dX3_becomeJoined_46 : decode cX3_becomeJoined 46 = .ok (.aload_n 0, 1) := by decide +kernel
theorem dX3_becomeJoined_47 : decode cX3_becomeJoined 47 = .ok (.getfield 15, 3) := by decide +kernel
theorem dX3_becomeJoined_50 : decode cX3_becomeJoined 50 = .ok (.iload 5, 2) := by decide +kernel
theorem dX3_becomeJoined_52 : decode cX3_becomeJoined 52 = .ok (.aload_n 1, 1) := by decide +kernel
theorem dX3_becomeJoined_53 : decode cX3_becomeJoined 53 = .ok (.getfield 15, 3) := by decide +kernel
theorem dX3_becomeJoined_56 : decode cX3_becomeJoined 56 = .ok (.iload 5, 2) := by decide +kernel
theorem dX3_becomeJoined_58 : decode cX3_becomeJoined 58 = .ok (.iaload, 1) := by decide +kernel
theorem dX3_becomeJoined_59 : decode cX3_becomeJoined 59 = .ok (.iastore, 1) := by decide +kernel
theorem dX3_becomeJoined_60 : decode cX3_becomeJoined 60 = .ok (.iinc 5 1, 3) := by decide +kernel
theorem dX3_becomeJoined_63 : decode cX3_becomeJoined 63 = .ok (.goto (-38), 3) := by decide +kernel
theorem dX3_becomeJoined_66 : decode cX3_becomeJoined 66 = .ok (.iload 4, 2) := by decide +kernel
theorem dX3_becomeJoined_68 : decode cX3_becomeJoined 68 = .ok (.istore 5, 2) := by decide +kernel
theorem dX3_becomeJoined_70 : decode cX3_becomeJoined 70 = .ok (.iload 5, 2) := by decide +kernel
theorem dX3_becomeJoined_72 : decode cX3_becomeJoined 72 = .ok (.aload_n 0, 1) := by decide +kernel
theorem dX3_becomeJoined_73 : decode cX3_becomeJoined 73 = .ok (.getfield 22, 3) := by decide +kernel
theorem dX3_becomeJoined_76 : decode cX3_becomeJoined 76 = .ok (.if_icmp .ge 59, 3) := by decide +kernel
theorem dX3_becomeJoined_79 : decode cX3_becomeJoined 79 = .ok (.aload_n 0, 1) := by decide +kernel
theorem dX3_becomeJoined_80 : decode cX3_becomeJoined 80 = .ok (.getfield 9, 3) := by decide +kernel
theorem dX3_becomeJoined_83 : decode cX3_becomeJoined 83 = .ok (.iload 5, 2) := by decide +kernel
theorem dX3_becomeJoined_85 : decode cX3_becomeJoined 85 = .ok (.aload_n 2, 1) := by decide +kernel
theorem dX3_becomeJoined_86 : decode cX3_becomeJoined 86 = .ok (.getfield 9, 3) := by decide +kernel
theorem dX3_becomeJoined_89 : decode cX3_becomeJoined 89 = .ok (.iload 5, 2) := by decide +kernel
theorem dX3_becomeJoined_91 : decode cX3_becomeJoined 91 = .ok (.iload 4, 2) := by decide +kernel
theorem dX3_becomeJoined_93 : decode cX3_becomeJoined 93 = .ok (.isub, 1) := by decide +kernel
theorem dX3_becomeJoined_94 : decode cX3_becomeJoined 94 = .ok (.iaload, 1) := by decide +kernel
theorem dX3_becomeJoined_95 : decode cX3_becomeJoined 95 = .ok (.iload 4, 2) := by decide +kernel
theorem dX3_becomeJoined_97 : decode cX3_becomeJoined 97 = .ok (.ishl, 1) := by decide +kernel
theorem dX3_becomeJoined_98 : decode cX3_becomeJoined 98 = .ok (.iload_n 3, 1) := by decide +kernel
theorem dX3_becomeJoined_99 : decode cX3_becomeJoined 99 = .ok (.ifCond .eq 10, 3) := by decide +kernel
theorem dX3_becomeJoined_102 : decode cX3_becomeJoined 102 = .ok (.aload_n 1, 1) := by decide +kernel
theorem dX3_becomeJoined_103 : decode cX3_becomeJoined 103 = .ok (.invokevirtual 53, 3) := by decide +kernel
theorem dX3_becomeJoined_106 : decode cX3_becomeJoined 106 = .ok (.goto 4, 3) := by decide +kernel
theorem dX3_becomeJoined_109 : decode cX3_becomeJoined 109 = .ok (.iconst 0, 1) := by decide +kernel
theorem dX3_becomeJoined_110 : decode cX3_becomeJoined 110 = .ok (.ior, 1) := by decide +kernel
theorem dX3_becomeJoined_111 : decode cX3_becomeJoined 111 = .ok (.iastore, 1) := by decide +kernel
theorem dX3_becomeJoined_112 : decode cX3_becomeJoined 112 = .ok (.aload_n 0, 1) := by decide +kernel
theorem dX3_becomeJoined_113 : decode cX3_becomeJoined 113 = .ok (.getfield 15, 3) := by decide +kernel
theorem dX3_becomeJoined_116 : decode cX3_becomeJoined 116 = .ok (.iload 5, 2) := by decide +kernel
theorem dX3_becomeJoined_118 : decode cX3_becomeJoined 118 = .ok (.aload_n 2, 1) := by decide +kernel
theorem dX3_becomeJoined_119 : decode cX3_becomeJoined 119 = .ok (.getfield 15, 3) := by decide +kernel
theorem dX3_becomeJoined_122 : decode cX3_becomeJoined 122 = .ok (.iload 5, 2) := by decide +kernel
theorem dX3_becomeJoined_124 : decode cX3_becomeJoined 124 = .ok (.iload 4, 2) := by decide +kernel
theorem dX3_becomeJoined_126 : decode cX3_becomeJoined 126 = .ok (.isub, 1) := by decide +kernel
theorem dX3_becomeJoined_127 : decode cX3_becomeJoined 127 = .ok (.iaload, 1) := by decide +kernel
theorem dX3_becomeJoined_128 : decode cX3_becomeJoined 128 = .ok (.iastore, 1) := by decide +kernel
theorem dX3_becomeJoined_129 : decode cX3_becomeJoined 129 = .ok (.iinc 5 1, 3) := by decide +kernel
theorem dX3_becomeJoined_132 : decode cX3_becomeJoined 132 = .ok (.goto (-62), 3) := by decide +kernel
theorem dX3_becomeJoined_135 : decode cX3_becomeJoined 135 = .ok (.return_, 1) := by decide +kernel
theorem dX3_becomeCommon_0 : decode cX3_becomeCommon 0 = .ok (.aload_n 0, 1) := by decide +kernel
theorem dX3_becomeCommon_1 : decode cX3_becomeCommon 1 = .ok (.aload_n 1, 1) := by decide +kernel
theorem dX3_becomeCommon_2 : decode cX3_becomeCommon 2 = .ok (.invokevirtual 56, 3) := by decide +kernel
theorem dX3_becomeCommon_5 : decode cX3_becomeCommon 5 = .ok (.iconst 0, 1) := by decide +kernel
theorem dX3_becomeCommon_6 : decode cX3_becomeCommon 6 = .ok (.istore_n 3, 1) := by decide +kernel
theorem dX3_becomeCommon_7 : decode cX3_becomeCommon 7 = .ok (.iload_n 3, 1) := by decide +kernel
theorem dX3_becomeCommon_8 : decode cX3_becomeCommon 8 = .ok (.aload_n 0, 1) := by decide +kernel
theorem dX3_becomeCommon_9 : decode cX3_becomeCommon 9 = .ok (.getfield 22, 3) := by decide +kernel
theorem dX3_becomeCommon_12 : decode cX3_becomeCommon 12 = .ok (.if_icmp .ge 24, 3) := by decide +kernel
theorem dX3_becomeCommon_15 : decode cX3_becomeCommon 15 = .ok (.aload_n 0, 1) := by decide +kernel
theorem dX3_becomeCommon_16 : decode cX3_becomeCommon 16 = .ok (.getfield 9, 3) := by decide +kernel
theorem dX3_becomeCommon_19 : decode cX3_becomeCommon 19 = .ok (.iload_n 3, 1) := by decide +kernel
theorem dX3_becomeCommon_20 : decode cX3_becomeCommon 20 = .ok (.dup2, 1) := by decide +kernel
theorem dX3_becomeCommon_21 : decode cX3_becomeCommon 21 = .ok (.iaload, 1) := by decide +kernel
theorem dX3_becomeCommon_22 : decode cX3_becomeCommon 22 = .ok (.aload_n 2, 1) := by decide +kernel
theorem dX3_becomeCommon_23 : decode cX3_becomeCommon 23 = .ok (.getfield 9, 3) := by decide +kernel
theorem dX3_becomeCommon_26 : decode cX3_becomeCommon 26 = .ok (.iload_n 3, 1) := by decide +kernel
theorem dX3_becomeCommon_27 : decode cX3_becomeCommon 27 = .ok (.iaload, 1) := by decide +kernel
theorem dX3_becomeCommon_28 : decode cX3_becomeCommon 28 = .ok (.iand, 1) := by decide +kernel
theorem dX3_becomeCommon_29 : decode cX3_becomeCommon 29 = .ok (.iastore, 1) := by decide +kernel
theorem dX3_becomeCommon_30 : decode cX3_becomeCommon 30 = .ok (.iinc 3 1, 3) := by decide +kernel
theorem dX3_becomeCommon_33 : decode cX3_becomeCommon 33 = .ok (.goto (-26), 3) := by decide +kernel
theorem dX3_becomeCommon_36 : decode cX3_becomeCommon 36 = .ok (.return_, 1) := by decide +kernel
theorem dX3_isBelow_0 : decode cX3_isBelow 0 = .ok (.aload_n 0, 1) := by decide +kernel
theorem dX3_isBelow_1 : decode cX3_isBelow 1 = .ok (.getfield 9, 3) := by decide +kernel
theorem dX3_isBelow_4 : decode cX3_isBelow 4 = .ok (.iload_n 2, 1) := by decide +kernel
theorem dX3_isBelow_5 : decode cX3_isBelow 5 = .ok (.iaload, 1) := by decide +kernel
theorem dX3_isBelow_6 : decode cX3_isBelow 6 = .ok (.iload_n 1, 1) := by decide +kernel
theorem dX3_isBelow_7 : decode cX3_isBelow 7 = .ok (.invokestatic 26, 3) := by decide +kernel
theorem dX3_isBelow_10 : decode cX3_isBelow 10 = .ok (.ireturn, 1) := by decide +kernel
theorem dX3_isNextBelow_0 : decode cX3_isNextBelow 0 = .ok (.aload_n 0, 1) := by decide +kernel
theorem dX3_isNextBelow_1 : decode cX3_isNextBelow 1 = .ok (.iload_n 1, 1) := by decide +kernel
theorem dX3_isNextBelow_2 : decode cX3_isNextBelow 2 = .ok (.iload_n 2, 1) := by decide +kernel
theorem dX3_isNextBelow_3 : decode cX3_isNextBelow 3 = .ok (.invokevirtual 34, 3) := by decide +kernel
theorem dX3_isNextBelow_6 : decode cX3_isNextBelow 6 = .ok (.ifCond .eq 22, 3) := by decide +kernel
theorem dX3_isNextBelow_9 : decode cX3_isNextBelow 9 = .ok (.aload_n 0, 1) := by decide +kernel
theorem dX3_isNextBelow_10 : decode cX3_isNextBelow 10 = .ok (.iload_n 1, 1) := by decide +kernel
theorem dX3_isNextBelow_11 : decode cX3_isNextBelow 11 = .ok (.invokevirtual 44, 3) := by decide +kernel
theorem dX3_isNextBelow_14 : decode cX3_isNextBelow 14 = .ok (.aload_n 0, 1) := by decide +kernel
theorem dX3_isNextBelow_15 : decode cX3_isNextBelow 15 = .ok (.getfield 9, 3) := by decide +kernel
theorem dX3_isNextBelow_18 : decode cX3_isNextBelow 18 = .ok (.iload_n 2, 1) := by decide +kernel
theorem dX3_isNextBelow_19 : decode cX3_isNextBelow 19 = .ok (.iaload, 1) := by decide +kernel
theorem dX3_isNextBelow_20 : decode cX3_isNextBelow 20 = .ok (.iand, 1) := by decide +kernel
theorem dX3_isNextBelow_21 : decode cX3_isNextBelow 21 = .ok (.ifCond .ne 7, 3) := by decide +kernel
theorem dX3_isNextBelow_24 : decode cX3_isNextBelow 24 = .ok (.iconst 1, 1) := by decide +kernel
theorem dX3_isNextBelow_25 : decode cX3_isNextBelow 25 = .ok (.goto 4, 3) := by decide +kernel
theorem dX3_isNextBelow_28 : decode cX3_isNextBelow 28 = .ok (.iconst 0, 1) := by decide +kernel
theorem dX3_isNextBelow_29 : decode cX3_isNextBelow 29 = .ok (.ireturn, 1) := by decide +kernel
theorem dX3_aboveOf_0 : decode cX3_aboveOf 0 = .ok (.iconst 0, 1) := by decide +kernel
theorem dX3_aboveOf_1 : decode cX3_aboveOf 1 = .ok (.istore_n 2, 1) := by decide +kernel
theorem dX3_aboveOf_2 : decode cX3_aboveOf 2 = .ok (.iconst 0, 1) := by decide +kernel
theorem dX3_aboveOf_3 : decode cX3_aboveOf 3 = .ok (.istore_n 3, 1) := by decide +kernel
theorem dX3_aboveOf_4 : decode cX3_aboveOf 4 = .ok (.iload_n 3, 1) := by decide +kernel
theorem dX3_aboveOf_5 : decode cX3_aboveOf 5 = .ok (.aload_n 0, 1) := by decide +kernel
theorem dX3_aboveOf_6 : decode cX3_aboveOf 6 = .ok (.getfield 22, 3) := by decide +kernel
theorem dX3_aboveOf_9 : decode cX3_aboveOf 9 = .ok (.if_icmp .ge 24, 3) := by decide +kernel
theorem dX3_aboveOf_12 : decode cX3_aboveOf 12 = .ok (.aload_n 0, 1) := by decide +kernel
theorem dX3_aboveOf_13 : decode cX3_aboveOf 13 = .ok (.iload_n 1, 1) := by decide +kernel
theorem dX3_aboveOf_14 : decode cX3_aboveOf 14 = .ok (.iload_n 3, 1) := by decide +kernel
theorem dX3_aboveOf_15 : decode cX3_aboveOf 15 = .ok (.invokevirtual 34, 3) := by decide +kernel
theorem dX3_aboveOf_18 : decode cX3_aboveOf 18 = .ok (.ifCond .eq 9, 3) := by decide +kernel
theorem dX3_aboveOf_21 : decode cX3_aboveOf 21 = .ok (.iload_n 2, 1) := by decide +kernel
theorem dX3_aboveOf_22 : decode cX3_aboveOf 22 = .ok (.iconst 1, 1) := by decide +kernel
theorem dX3_aboveOf_23 : decode cX3_aboveOf 23 = .ok (.iload_n 3, 1) := by decide +kernel
theorem dX3_aboveOf_24 : decode cX3_aboveOf 24 = .ok (.ishl, 1) := by decide +kernel
theorem dX3_aboveOf_25 : decode cX3_aboveOf 25 = .ok (.ior, 1) := by decide +kernel
theorem dX3_aboveOf_26 : decode cX3_aboveOf 26 = .ok (.istore_n 2, 1) := by decide +kernel
theorem dX3_aboveOf_27 : decode cX3_aboveOf 27 = .ok (.iinc 3 1, 3) := by decide +kernel
theorem dX3_aboveOf_30 : decode cX3_aboveOf 30 = .ok (.goto (-26), 3) := by decide +kernel
theorem dX3_aboveOf_33 : decode cX3_aboveOf 33 = .ok (.iload_n 2, 1) := by decide +kernel
theorem dX3_aboveOf_34 : decode cX3_aboveOf 34 = .ok (.ireturn, 1) := by decide +kernel
theorem dX3_pairCount_0 : decode cX3_pairCount 0 = .ok (.iconst 0, 1) := by decide +kernel
theorem dX3_pairCount_1 : decode cX3_pairCount 1 = .ok (.istore_n 1, 1) := by decide +kernel
theorem dX3_pairCount_2 : decode cX3_pairCount 2 = .ok (.iconst 0, 1) := by decide +kernel
theorem dX3_pairCount_3 : decode cX3_pairCount 3 = .ok (.istore_n 2, 1) := by decide +kernel
theorem dX3_pairCount_4 : decode cX3_pairCount 4 = .ok (.iload_n 2, 1) := by decide +kernel
theorem dX3_pairCount_5 : decode cX3_pairCount 5 = .ok (.aload_n 0, 1) := by decide +kernel
theorem dX3_pairCount_6 : decode cX3_pairCount 6 = .ok (.getfield 22, 3) := by decide +kernel
theorem dX3_pairCount_9 : decode cX3_pairCount 9 = .ok (.if_icmp .ge 21, 3) := by decide +kernel
theorem dX3_pairCount_12 : decode cX3_pairCount 12 = .ok (.iload_n 1, 1) := by decide +kernel
theorem dX3_pairCount_13 : decode cX3_pairCount 13 = .ok (.aload_n 0, 1) := by decide +kernel
theorem dX3_pairCount_14 : decode cX3_pairCount 14 = .ok (.getfield 9, 3) := by decide +kernel
theorem dX3_pairCount_17 : decode cX3_pairCount 17 = .ok (.iload_n 2, 1) := by decide +kernel
theorem dX3_pairCount_18 : decode cX3_pairCount 18 = .ok (.iaload, 1) := by decide +kernel
theorem dX3_pairCount_19 : decode cX3_pairCount 19 = .ok (.invokestatic 60, 3) := by decide +kernel
theorem dX3_pairCount_22 : decode cX3_pairCount 22 = .ok (.iadd, 1) := by decide +kernel
theorem dX3_pairCount_23 : decode cX3_pairCount 23 = .ok (.istore_n 1, 1) := by decide +kernel
theorem dX3_pairCount_24 : decode cX3_pairCount 24 = .ok (.iinc 2 1, 3) := by decide +kernel
theorem dX3_pairCount_27 : decode cX3_pairCount 27 = .ok (.goto (-23), 3) := by decide +kernel
theorem dX3_pairCount_30 : decode cX3_pairCount 30 = .ok (.iload_n 1, 1) := by decide +kernel
theorem dX3_pairCount_31 : decode cX3_pairCount 31 = .ok (.ireturn, 1) := by decide +kernel
theorem dX3_nextCount_0 : decode cX3_nextCount 0 = .ok (.iconst 0, 1) := by decide +kernel
theorem dX3_nextCount_1 : decode cX3_nextCount 1 = .ok (.istore_n 1, 1) := by decide +kernel
theorem dX3_nextCount_2 : decode cX3_nextCount 2 = .ok (.iconst 0, 1) := by decide +kernel
theorem dX3_nextCount_3 : decode cX3_nextCount 3 = .ok (.istore_n 2, 1) := by decide +kernel
theorem dX3_nextCount_4 : decode cX3_nextCount 4 = .ok (.iload_n 2, 1) := by decide +kernel
theorem dX3_nextCount_5 : decode cX3_nextCount 5 = .ok (.aload_n 0, 1) := by decide +kernel
theorem dX3_nextCount_6 : decode cX3_nextCount 6 = .ok (.getfield 22, 3) := by decide +kernel
theorem dX3_nextCount_9 : decode cX3_nextCount 9 = .ok (.if_icmp .ge 25, 3) := by decide +kernel
theorem dX3_nextCount_12 : decode cX3_nextCount 12 = .ok (.iload_n 1, 1) := by decide +kernel
theorem dX3_nextCount_13 : decode cX3_nextCount 13 = .ok (.aload_n 0, 1) := by decide +kernel
theorem dX3_nextCount_14 : decode cX3_nextCount 14 = .ok (.aload_n 0, 1) := by decide +kernel
theorem dX3_nextCount_15 : decode cX3_nextCount 15 = .ok (.getfield 9, 3) := by decide +kernel
theorem dX3_nextCount_18 : decode cX3_nextCount 18 = .ok (.iload_n 2, 1) := by decide +kernel
theorem dX3_nextCount_19 : decode cX3_nextCount 19 = .ok (.iaload, 1) := by decide +kernel
theorem dX3_nextCount_20 : decode cX3_nextCount 20 = .ok (.invokevirtual 65, 3) := by decide +kernel
theorem dX3_nextCount_23 : decode cX3_nextCount 23 = .ok (.invokestatic 60, 3) := by decide +kernel
theorem dX3_nextCount_26 : decode cX3_nextCount 26 = .ok (.iadd, 1) := by decide +kernel
theorem dX3_nextCount_27 : decode cX3_nextCount 27 = .ok (.istore_n 1, 1) := by decide +kernel
theorem dX3_nextCount_28 : decode cX3_nextCount 28 = .ok (.iinc 2 1, 3) := by decide +kernel
theorem dX3_nextCount_31 : decode cX3_nextCount 31 = .ok (.goto (-27), 3) := by decide +kernel
theorem dX3_nextCount_34 : decode cX3_nextCount 34 = .ok (.iload_n 1, 1) := by decide +kernel
theorem dX3_nextCount_35 : decode cX3_nextCount 35 = .ok (.ireturn, 1) := by decide +kernel
theorem dX3_hasPairsOf_0 : decode cX3_hasPairsOf 0 = .ok (.aload_n 0, 1) := by decide +kernel
theorem dX3_hasPairsOf_1 : decode cX3_hasPairsOf 1 = .ok (.getfield 22, 3) := by decide +kernel
theorem dX3_hasPairsOf_4 : decode cX3_hasPairsOf 4 = .ok (.aload_n 1, 1) := by decide +kernel
theorem dX3_hasPairsOf_5 : decode cX3_hasPairsOf 5 = .ok (.getfield 22, 3) := by decide +kernel
theorem dX3_hasPairsOf_8 : decode cX3_hasPairsOf 8 = .ok (.if_icmp .eq 5, 3) := by decide +kernel
theorem dX3_hasPairsOf_11 : decode cX3_hasPairsOf 11 = .ok (.iconst 0, 1) := by decide +kernel
theorem dX3_hasPairsOf_12 : decode cX3_hasPairsOf 12 = .ok (.ireturn, 1) := by decide +kernel
theorem dX3_hasPairsOf_13 : decode cX3_hasPairsOf 13 = .ok (.iconst 0, 1) := by decide +kernel
theorem dX3_hasPairsOf_14 : decode cX3_hasPairsOf 14 = .ok (.istore_n 2, 1) := by decide +kernel
theorem dX3_hasPairsOf_15 : decode cX3_hasPairsOf 15 = .ok (.iload_n 2, 1) := by decide +kernel
theorem dX3_hasPairsOf_16 : decode cX3_hasPairsOf 16 = .ok (.aload_n 0, 1) := by decide +kernel
theorem dX3_hasPairsOf_17 : decode cX3_hasPairsOf 17 = .ok (.getfield 22, 3) := by decide +kernel
theorem dX3_hasPairsOf_20 : decode cX3_hasPairsOf 20 = .ok (.if_icmp .ge 26, 3) := by decide +kernel
theorem dX3_hasPairsOf_23 : decode cX3_hasPairsOf 23 = .ok (.aload_n 0, 1) := by decide +kernel
theorem dX3_hasPairsOf_24 : decode cX3_hasPairsOf 24 = .ok (.getfield 9, 3) := by decide +kernel
theorem dX3_hasPairsOf_27 : decode cX3_hasPairsOf 27 = .ok (.iload_n 2, 1) := by decide +kernel
theorem dX3_hasPairsOf_28 : decode cX3_hasPairsOf 28 = .ok (.iaload, 1) := by decide +kernel
theorem dX3_hasPairsOf_29 : decode cX3_hasPairsOf 29 = .ok (.aload_n 1, 1) := by decide +kernel
theorem dX3_hasPairsOf_30 : decode cX3_hasPairsOf 30 = .ok (.getfield 9, 3) := by decide +kernel
theorem dX3_hasPairsOf_33 : decode cX3_hasPairsOf 33 = .ok (.iload_n 2, 1) := by decide +kernel
theorem dX3_hasPairsOf_34 : decode cX3_hasPairsOf 34 = .ok (.iaload, 1) := by decide +kernel
theorem dX3_hasPairsOf_35 : decode cX3_hasPairsOf 35 = .ok (.if_icmp .eq 5, 3) := by decide +kernel
theorem dX3_hasPairsOf_38 : decode cX3_hasPairsOf 38 = .ok (.iconst 0, 1) := by decide +kernel
theorem dX3_hasPairsOf_39 : decode cX3_hasPairsOf 39 = .ok (.ireturn, 1) := by decide +kernel
theorem dX3_hasPairsOf_40 : decode cX3_hasPairsOf 40 = .ok (.iinc 2 1, 3) := by decide +kernel
theorem dX3_hasPairsOf_43 : decode cX3_hasPairsOf 43 = .ok (.goto (-28), 3) := by decide +kernel
theorem dX3_hasPairsOf_46 : decode cX3_hasPairsOf 46 = .ok (.iconst 1, 1) := by decide +kernel
theorem dX3_hasPairsOf_47 : decode cX3_hasPairsOf 47 = .ok (.ireturn, 1) := by decide +kernel
theorem dX3_isInLine_0 : decode cX3_isInLine 0 = .ok (.iconst 0, 1) := by decide +kernel
theorem dX3_isInLine_1 : decode cX3_isInLine 1 = .ok (.istore_n 2, 1) := by decide +kernel
theorem dX3_isInLine_2 : decode cX3_isInLine 2 = .ok (.iconst 0, 1) := by decide +kernel
theorem dX3_isInLine_3 : decode cX3_isInLine 3 = .ok (.istore_n 3, 1) := by decide +kernel
theorem dX3_isInLine_4 : decode cX3_isInLine 4 = .ok (.iload_n 3, 1) := by decide +kernel
theorem dX3_isInLine_5 : decode cX3_isInLine 5 = .ok (.aload_n 0, 1) := by decide +kernel
theorem dX3_isInLine_6 : decode cX3_isInLine 6 = .ok (.getfield 22, 3) := by decide +kernel
theorem dX3_isInLine_9 : decode cX3_isInLine 9 = .ok (.if_icmp .ge 31, 3) := by decide +kernel
theorem dX3_isInLine_12 : decode cX3_isInLine 12 = .ok (.iload_n 1, 1) := by decide +kernel
theorem dX3_isInLine_13 : decode cX3_isInLine 13 = .ok (.iload_n 3, 1) := by decide +kernel
theorem dX3_isInLine_14 : decode cX3_isInLine 14 = .ok (.invokestatic 26, 3) := by decide +kernel
theorem dX3_isInLine_17 : decode cX3_isInLine 17 = .ok (.ifCond .eq 17, 3) := by decide +kernel
theorem dX3_isInLine_20 : decode cX3_isInLine 20 = .ok (.iload_n 2, 1) := by decide +kernel
theorem dX3_isInLine_21 : decode cX3_isInLine 21 = .ok (.aload_n 0, 1) := by decide +kernel
theorem dX3_isInLine_22 : decode cX3_isInLine 22 = .ok (.getfield 9, 3) := by decide +kernel
theorem dX3_isInLine_25 : decode cX3_isInLine 25 = .ok (.iload_n 3, 1) := by decide +kernel
theorem dX3_isInLine_26 : decode cX3_isInLine 26 = .ok (.iaload, 1) := by decide +kernel
theorem dX3_isInLine_27 : decode cX3_isInLine 27 = .ok (.iload_n 1, 1) := by decide +kernel
theorem dX3_isInLine_28 : decode cX3_isInLine 28 = .ok (.iand, 1) := by decide +kernel
theorem dX3_isInLine_29 : decode cX3_isInLine 29 = .ok (.invokestatic 60, 3) := by decide +kernel
theorem dX3_isInLine_32 : decode cX3_isInLine 32 = .ok (.iadd, 1) := by decide +kernel
theorem dX3_isInLine_33 : decode cX3_isInLine 33 = .ok (.istore_n 2, 1) := by decide +kernel
theorem dX3_isInLine_34 : decode cX3_isInLine 34 = .ok (.iinc 3 1, 3) := by decide +kernel
theorem dX3_isInLine_37 : decode cX3_isInLine 37 = .ok (.goto (-33), 3) := by decide +kernel
theorem dX3_isInLine_40 : decode cX3_isInLine 40 = .ok (.iload_n 1, 1) := by decide +kernel
theorem dX3_isInLine_41 : decode cX3_isInLine 41 = .ok (.invokestatic 60, 3) := by decide +kernel
theorem dX3_isInLine_44 : decode cX3_isInLine 44 = .ok (.istore_n 3, 1) := by decide +kernel
theorem dX3_isInLine_45 : decode cX3_isInLine 45 = .ok (.iload_n 2, 1) := by decide +kernel
theorem dX3_isInLine_46 : decode cX3_isInLine 46 = .ok (.iload_n 3, 1) := by decide +kernel
theorem dX3_isInLine_47 : decode cX3_isInLine 47 = .ok (.iload_n 3, 1) := by decide +kernel
theorem dX3_isInLine_48 : decode cX3_isInLine 48 = .ok (.iconst 1, 1) := by decide +kernel
theorem dX3_isInLine_49 : decode cX3_isInLine 49 = .ok (.isub, 1) := by decide +kernel
theorem dX3_isInLine_50 : decode cX3_isInLine 50 = .ok (.imul, 1) := by decide +kernel
theorem dX3_isInLine_51 : decode cX3_isInLine 51 = .ok (.iconst 2, 1) := by decide +kernel
theorem dX3_isInLine_52 : decode cX3_isInLine 52 = .ok (.idiv, 1) := by decide +kernel
theorem dX3_isInLine_53 : decode cX3_isInLine 53 = .ok (.if_icmp .ne 7, 3) := by decide +kernel
theorem dX3_isInLine_56 : decode cX3_isInLine 56 = .ok (.iconst 1, 1) := by decide +kernel
theorem dX3_isInLine_57 : decode cX3_isInLine 57 = .ok (.goto 4, 3) := by decide +kernel
theorem dX3_isInLine_60 : decode cX3_isInLine 60 = .ok (.iconst 0, 1) := by decide +kernel
theorem dX3_isInLine_61 : decode cX3_isInLine 61 = .ok (.ireturn, 1) := by decide +kernel
theorem dX3_isUnordered_0 : decode cX3_isUnordered 0 = .ok (.iconst 0, 1) := by decide +kernel
theorem dX3_isUnordered_1 : decode cX3_isUnordered 1 = .ok (.istore_n 2, 1) := by decide +kernel
theorem dX3_isUnordered_2 : decode cX3_isUnordered 2 = .ok (.iload_n 2, 1) := by decide +kernel
theorem dX3_isUnordered_3 : decode cX3_isUnordered 3 = .ok (.aload_n 0, 1) := by decide +kernel
theorem dX3_isUnordered_4 : decode cX3_isUnordered 4 = .ok (.getfield 22, 3) := by decide +kernel
theorem dX3_isUnordered_7 : decode cX3_isUnordered 7 = .ok (.if_icmp .ge 30, 3) := by decide +kernel
theorem dX3_isUnordered_10 : decode cX3_isUnordered 10 = .ok (.iload_n 1, 1) := by decide +kernel
theorem dX3_isUnordered_11 : decode cX3_isUnordered 11 = .ok (.iload_n 2, 1) := by decide +kernel
theorem dX3_isUnordered_12 : decode cX3_isUnordered 12 = .ok (.invokestatic 26, 3) := by decide +kernel
theorem dX3_isUnordered_15 : decode cX3_isUnordered 15 = .ok (.ifCond .eq 16, 3) := by decide +kernel
theorem dX3_isUnordered_18 : decode cX3_isUnordered 18 = .ok (.aload_n 0, 1) := by decide +kernel
theorem dX3_isUnordered_19 : decode cX3_isUnordered 19 = .ok (.getfield 9, 3) := by decide +kernel
theorem dX3_isUnordered_22 : decode cX3_isUnordered 22 = .ok (.iload_n 2, 1) := by decide +kernel
theorem dX3_isUnordered_23 : decode cX3_isUnordered 23 = .ok (.iaload, 1) := by decide +kernel
theorem dX3_isUnordered_24 : decode cX3_isUnordered 24 = .ok (.iload_n 1, 1) := by decide +kernel
theorem dX3_isUnordered_25 : decode cX3_isUnordered 25 = .ok (.iand, 1) := by decide +kernel
theorem dX3_isUnordered_26 : decode cX3_isUnordered 26 = .ok (.ifCond .eq 5, 3) := by decide +kernel
theorem dX3_isUnordered_29 : decode cX3_isUnordered 29 = .ok (.iconst 0, 1) := by decide +kernel
theorem dX3_isUnordered_30 : decode cX3_isUnordered 30 = .ok (.ireturn, 1) := by decide +kernel
theorem dX3_isUnordered_31 : decode cX3_isUnordered 31 = .ok (.iinc 2 1, 3) := by decide +kernel
theorem dX3_isUnordered_34 : decode cX3_isUnordered 34 = .ok (.goto (-32), 3) := by decide +kernel
theorem dX3_isUnordered_37 : decode cX3_isUnordered 37 = .ok (.iconst 1, 1) := by decide +kernel
theorem dX3_isUnordered_38 : decode cX3_isUnordered 38 = .ok (.ireturn, 1) := by decide +kernel
theorem dX3_allBelow_0 : decode cX3_allBelow 0 = .ok (.iconst 0, 1) := by decide +kernel
theorem dX3_allBelow_1 : decode cX3_allBelow 1 = .ok (.istore_n 2, 1) := by decide +kernel
theorem dX3_allBelow_2 : decode cX3_allBelow 2 = .ok (.iconst 0, 1) := by decide +kernel
theorem dX3_allBelow_3 : decode cX3_allBelow 3 = .ok (.istore_n 3, 1) := by decide +kernel
theorem dX3_allBelow_4 : decode cX3_allBelow 4 = .ok (.iload_n 3, 1) := by decide +kernel
theorem dX3_allBelow_5 : decode cX3_allBelow 5 = .ok (.aload_n 0, 1) := by decide +kernel
theorem dX3_allBelow_6 : decode cX3_allBelow 6 = .ok (.getfield 22, 3) := by decide +kernel
theorem dX3_allBelow_9 : decode cX3_allBelow 9 = .ok (.if_icmp .ge 26, 3) := by decide +kernel
theorem dX3_allBelow_12 : decode cX3_allBelow 12 = .ok (.iload_n 1, 1) := by decide +kernel
theorem dX3_allBelow_13 : decode cX3_allBelow 13 = .ok (.iload_n 3, 1) := by decide +kernel
theorem dX3_allBelow_14 : decode cX3_allBelow 14 = .ok (.invokestatic 26, 3) := by decide +kernel
theorem dX3_allBelow_17 : decode cX3_allBelow 17 = .ok (.ifCond .eq 12, 3) := by decide +kernel
theorem dX3_allBelow_20 : decode cX3_allBelow 20 = .ok (.iload_n 2, 1) := by decide +kernel
theorem dX3_allBelow_21 : decode cX3_allBelow 21 = .ok (.aload_n 0, 1) := by decide +kernel
theorem dX3_allBelow_22 : decode cX3_allBelow 22 = .ok (.getfield 9, 3) := by decide +kernel
theorem dX3_allBelow_25 : decode cX3_allBelow 25 = .ok (.iload_n 3, 1) := by decide +kernel
theorem dX3_allBelow_26 : decode cX3_allBelow 26 = .ok (.iaload, 1) := by decide +kernel
theorem dX3_allBelow_27 : decode cX3_allBelow 27 = .ok (.ior, 1) := by decide +kernel
theorem dX3_allBelow_28 : decode cX3_allBelow 28 = .ok (.istore_n 2, 1) := by decide +kernel
theorem dX3_allBelow_29 : decode cX3_allBelow 29 = .ok (.iinc 3 1, 3) := by decide +kernel
theorem dX3_allBelow_32 : decode cX3_allBelow 32 = .ok (.goto (-28), 3) := by decide +kernel
theorem dX3_allBelow_35 : decode cX3_allBelow 35 = .ok (.iload_n 2, 1) := by decide +kernel
theorem dX3_allBelow_36 : decode cX3_allBelow 36 = .ok (.ireturn, 1) := by decide +kernel
theorem dX3_greatestOf_0 : decode cX3_greatestOf 0 = .ok (.iload_n 1, 1) := by decide +kernel
theorem dX3_greatestOf_1 : decode cX3_greatestOf 1 = .ok (.aload_n 0, 1) := by decide +kernel
theorem dX3_greatestOf_2 : decode cX3_greatestOf 2 = .ok (.iload_n 1, 1) := by decide +kernel
theorem dX3_greatestOf_3 : decode cX3_greatestOf 3 = .ok (.invokevirtual 68, 3) := by decide +kernel
theorem dX3_greatestOf_6 : decode cX3_greatestOf 6 = .ok (.iconst (-1), 1) := by decide +kernel
theorem dX3_greatestOf_7 : decode cX3_greatestOf 7 = .ok (.ixor, 1) := by decide +kernel
theorem dX3_greatestOf_8 : decode cX3_greatestOf 8 = .ok (.iand, 1) := by decide +kernel
theorem dX3_greatestOf_9 : decode cX3_greatestOf 9 = .ok (.ireturn, 1) := by decide +kernel
theorem dX3_leastOf_0 : decode cX3_leastOf 0 = .ok (.iconst 0, 1) := by decide +kernel
theorem dX3_leastOf_1 : decode cX3_leastOf 1 = .ok (.istore_n 2, 1) := by decide +kernel
theorem dX3_leastOf_2 : decode cX3_leastOf 2 = .ok (.iconst 0, 1) := by decide +kernel
theorem dX3_leastOf_3 : decode cX3_leastOf 3 = .ok (.istore_n 3, 1) := by decide +kernel
theorem dX3_leastOf_4 : decode cX3_leastOf 4 = .ok (.iload_n 3, 1) := by decide +kernel
theorem dX3_leastOf_5 : decode cX3_leastOf 5 = .ok (.aload_n 0, 1) := by decide +kernel
theorem dX3_leastOf_6 : decode cX3_leastOf 6 = .ok (.getfield 22, 3) := by decide +kernel
theorem dX3_leastOf_9 : decode cX3_leastOf 9 = .ok (.if_icmp .ge 34, 3) := by decide +kernel
theorem dX3_leastOf_12 : decode cX3_leastOf 12 = .ok (.iload_n 1, 1) := by decide +kernel
theorem dX3_leastOf_13 : decode cX3_leastOf 13 = .ok (.iload_n 3, 1) := by decide +kernel
theorem dX3_leastOf_14 : decode cX3_leastOf 14 = .ok (.invokestatic 26, 3) := by decide +kernel
theorem dX3_leastOf_17 : decode cX3_leastOf 17 = .ok (.ifCond .eq 20, 3) := by decide +kernel
theorem dX3_leastOf_20 : decode cX3_leastOf 20 = .ok (.aload_n 0, 1) := by decide +kernel
theorem dX3_leastOf_21 : decode cX3_leastOf 21 = .ok (.getfield 9, 3) := by decide +kernel
theorem dX3_leastOf_24 : decode cX3_leastOf 24 = .ok (.iload_n 3, 1) := by decide +kernel
theorem dX3_leastOf_25 : decode cX3_leastOf 25 = .ok (.iaload, 1) := by decide +kernel
theorem dX3_leastOf_26 : decode cX3_leastOf 26 = .ok (.iload_n 1, 1) := by decide +kernel
theorem dX3_leastOf_27 : decode cX3_leastOf 27 = .ok (.iand, 1) := by decide +kernel
theorem dX3_leastOf_28 : decode cX3_leastOf 28 = .ok (.ifCond .ne 9, 3) := by decide +kernel
theorem dX3_leastOf_31 : decode cX3_leastOf 31 = .ok (.iload_n 2, 1) := by decide +kernel
theorem dX3_leastOf_32 : decode cX3_leastOf 32 = .ok (.iconst 1, 1) := by decide +kernel
theorem dX3_leastOf_33 : decode cX3_leastOf 33 = .ok (.iload_n 3, 1) := by decide +kernel
theorem dX3_leastOf_34 : decode cX3_leastOf 34 = .ok (.ishl, 1) := by decide +kernel
theorem dX3_leastOf_35 : decode cX3_leastOf 35 = .ok (.ior, 1) := by decide +kernel
theorem dX3_leastOf_36 : decode cX3_leastOf 36 = .ok (.istore_n 2, 1) := by decide +kernel
theorem dX3_leastOf_37 : decode cX3_leastOf 37 = .ok (.iinc 3 1, 3) := by decide +kernel
theorem dX3_leastOf_40 : decode cX3_leastOf 40 = .ok (.goto (-36), 3) := by decide +kernel
theorem dX3_leastOf_43 : decode cX3_leastOf 43 = .ok (.iload_n 2, 1) := by decide +kernel
theorem dX3_leastOf_44 : decode cX3_leastOf 44 = .ok (.ireturn, 1) := by decide +kernel
theorem dX3_isClosedBelow_0 : decode cX3_isClosedBelow 0 = .ok (.iconst 0, 1) := by decide +kernel
theorem dX3_isClosedBelow_1 : decode cX3_isClosedBelow 1 = .ok (.istore_n 2, 1) := by decide +kernel
theorem dX3_isClosedBelow_2 : decode cX3_isClosedBelow 2 = .ok (.iload_n 2, 1) := by decide +kernel
theorem dX3_isClosedBelow_3 : decode cX3_isClosedBelow 3 = .ok (.aload_n 0, 1) := by decide +kernel
theorem dX3_isClosedBelow_4 : decode cX3_isClosedBelow 4 = .ok (.getfield 22, 3) := by decide +kernel
theorem dX3_isClosedBelow_7 : decode cX3_isClosedBelow 7 = .ok (.if_icmp .ge 32, 3) := by decide +kernel
theorem dX3_isClosedBelow_10 : decode cX3_isClosedBelow 10 = .ok (.iload_n 1, 1) := by decide +kernel
theorem dX3_isClosedBelow_11 : decode cX3_isClosedBelow 11 = .ok (.iload_n 2, 1) := by decide +kernel
theorem dX3_isClosedBelow_12 : decode cX3_isClosedBelow 12 = .ok (.invokestatic 26, 3) := by decide +kernel
theorem dX3_isClosedBelow_15 : decode cX3_isClosedBelow 15 = .ok (.ifCond .eq 18, 3) := by decide +kernel
theorem dX3_isClosedBelow_18 : decode cX3_isClosedBelow 18 = .ok (.aload_n 0, 1) := by decide +kernel
theorem dX3_isClosedBelow_19 : decode cX3_isClosedBelow 19 = .ok (.getfield 9, 3) := by decide +kernel
theorem dX3_isClosedBelow_22 : decode cX3_isClosedBelow 22 = .ok (.iload_n 2, 1) := by decide +kernel
theorem dX3_isClosedBelow_23 : decode cX3_isClosedBelow 23 = .ok (.iaload, 1) := by decide +kernel
theorem dX3_isClosedBelow_24 : decode cX3_isClosedBelow 24 = .ok (.iload_n 1, 1) := by decide +kernel
theorem dX3_isClosedBelow_25 : decode cX3_isClosedBelow 25 = .ok (.invokestatic 71, 3) := by decide +kernel
theorem dX3_isClosedBelow_28 : decode cX3_isClosedBelow 28 = .ok (.ifCond .ne 5, 3) := by decide +kernel
theorem dX3_isClosedBelow_31 : decode cX3_isClosedBelow 31 = .ok (.iconst 0, 1) := by decide +kernel
theorem dX3_isClosedBelow_32 : decode cX3_isClosedBelow 32 = .ok (.ireturn, 1) := by decide +kernel
theorem dX3_isClosedBelow_33 : decode cX3_isClosedBelow 33 = .ok (.iinc 2 1, 3) := by decide +kernel
theorem dX3_isClosedBelow_36 : decode cX3_isClosedBelow 36 = .ok (.goto (-34), 3) := by decide +kernel
theorem dX3_isClosedBelow_39 : decode cX3_isClosedBelow 39 = .ok (.iconst 1, 1) := by decide +kernel
theorem dX3_isClosedBelow_40 : decode cX3_isClosedBelow 40 = .ok (.ireturn, 1) := by decide +kernel
theorem dX3_filledUp_0 : decode cX3_filledUp 0 = .ok (.iload_n 1, 1) := by decide +kernel
theorem dX3_filledUp_1 : decode cX3_filledUp 1 = .ok (.aload_n 0, 1) := by decide +kernel
theorem dX3_filledUp_2 : decode cX3_filledUp 2 = .ok (.iload_n 1, 1) := by decide +kernel
theorem dX3_filledUp_3 : decode cX3_filledUp 3 = .ok (.invokevirtual 68, 3) := by decide +kernel
theorem dX3_filledUp_6 : decode cX3_filledUp 6 = .ok (.ior, 1) := by decide +kernel
theorem dX3_filledUp_7 : decode cX3_filledUp 7 = .ok (.ireturn, 1) := by decide +kernel
theorem dX3_pared_0 : decode cX3_pared 0 = .ok (.iconst 0, 1) := by decide +kernel
theorem dX3_pared_1 : decode cX3_pared 1 = .ok (.istore_n 2, 1) := by decide +kernel
theorem dX3_pared_2 : decode cX3_pared 2 = .ok (.iconst 0, 1) := by decide +kernel
theorem dX3_pared_3 : decode cX3_pared 3 = .ok (.istore_n 3, 1) := by decide +kernel
theorem dX3_pared_4 : decode cX3_pared 4 = .ok (.iload_n 3, 1) := by decide +kernel
theorem dX3_pared_5 : decode cX3_pared 5 = .ok (.aload_n 0, 1) := by decide +kernel
theorem dX3_pared_6 : decode cX3_pared 6 = .ok (.getfield 22, 3) := by decide +kernel
theorem dX3_pared_9 : decode cX3_pared 9 = .ok (.if_icmp .ge 36, 3) := by decide +kernel
theorem dX3_pared_12 : decode cX3_pared 12 = .ok (.iload_n 1, 1) := by decide +kernel
theorem dX3_pared_13 : decode cX3_pared 13 = .ok (.iload_n 3, 1) := by decide +kernel
theorem dX3_pared_14 : decode cX3_pared 14 = .ok (.invokestatic 26, 3) := by decide +kernel
theorem dX3_pared_17 : decode cX3_pared 17 = .ok (.ifCond .eq 22, 3) := by decide +kernel
theorem dX3_pared_20 : decode cX3_pared 20 = .ok (.aload_n 0, 1) := by decide +kernel
theorem dX3_pared_21 : decode cX3_pared 21 = .ok (.getfield 9, 3) := by decide +kernel
theorem dX3_pared_24 : decode cX3_pared 24 = .ok (.iload_n 3, 1) := by decide +kernel
theorem dX3_pared_25 : decode cX3_pared 25 = .ok (.iaload, 1) := by decide +kernel
theorem dX3_pared_26 : decode cX3_pared 26 = .ok (.iload_n 1, 1) := by decide +kernel
theorem dX3_pared_27 : decode cX3_pared 27 = .ok (.invokestatic 71, 3) := by decide +kernel
theorem dX3_pared_30 : decode cX3_pared 30 = .ok (.ifCond .eq 9, 3) := by decide +kernel
theorem dX3_pared_33 : decode cX3_pared 33 = .ok (.iload_n 2, 1) := by decide +kernel
theorem dX3_pared_34 : decode cX3_pared 34 = .ok (.iconst 1, 1) := by decide +kernel
theorem dX3_pared_35 : decode cX3_pared 35 = .ok (.iload_n 3, 1) := by decide +kernel
theorem dX3_pared_36 : decode cX3_pared 36 = .ok (.ishl, 1) := by decide +kernel
theorem dX3_pared_37 : decode cX3_pared 37 = .ok (.ior, 1) := by decide +kernel
theorem dX3_pared_38 : decode cX3_pared 38 = .ok (.istore_n 2, 1) := by decide +kernel
theorem dX3_pared_39 : decode cX3_pared 39 = .ok (.iinc 3 1, 3) := by decide +kernel
theorem dX3_pared_42 : decode cX3_pared 42 = .ok (.goto (-38), 3) := by decide +kernel
theorem dX3_pared_45 : decode cX3_pared 45 = .ok (.iload_n 2, 1) := by decide +kernel
theorem dX3_pared_46 : decode cX3_pared 46 = .ok (.ireturn, 1) := by decide +kernel
theorem dX3_canCome_0 : decode cX3_canCome 0 = .ok (.iload_n 1, 1) := by decide +kernel
theorem dX3_canCome_1 : decode cX3_canCome 1 = .ok (.iload_n 2, 1) := by decide +kernel
theorem dX3_canCome_2 : decode cX3_canCome 2 = .ok (.ishr, 1) := by decide +kernel
theorem dX3_canCome_3 : decode cX3_canCome 3 = .ok (.iconst 1, 1) := by decide +kernel
theorem dX3_canCome_4 : decode cX3_canCome 4 = .ok (.iand, 1) := by decide +kernel
theorem dX3_canCome_5 : decode cX3_canCome 5 = .ok (.ifCond .ne 20, 3) := by decide +kernel
theorem dX3_canCome_8 : decode cX3_canCome 8 = .ok (.aload_n 0, 1) := by decide +kernel
theorem dX3_canCome_9 : decode cX3_canCome 9 = .ok (.getfield 9, 3) := by decide +kernel
theorem dX3_canCome_12 : decode cX3_canCome 12 = .ok (.iload_n 2, 1) := by decide +kernel
theorem dX3_canCome_13 : decode cX3_canCome 13 = .ok (.iaload, 1) := by decide +kernel
theorem dX3_canCome_14 : decode cX3_canCome 14 = .ok (.iload_n 1, 1) := by decide +kernel
theorem dX3_canCome_15 : decode cX3_canCome 15 = .ok (.iconst (-1), 1) := by decide +kernel
theorem dX3_canCome_16 : decode cX3_canCome 16 = .ok (.ixor, 1) := by decide +kernel
theorem dX3_canCome_17 : decode cX3_canCome 17 = .ok (.iand, 1) := by decide +kernel
theorem dX3_canCome_18 : decode cX3_canCome 18 = .ok (.ifCond .ne 7, 3) := by decide +kernel
theorem dX3_canCome_21 : decode cX3_canCome 21 = .ok (.iconst 1, 1) := by decide +kernel
theorem dX3_canCome_22 : decode cX3_canCome 22 = .ok (.goto 4, 3) := by decide +kernel
theorem dX3_canCome_25 : decode cX3_canCome 25 = .ok (.iconst 0, 1) := by decide +kernel
theorem dX3_canCome_26 : decode cX3_canCome 26 = .ok (.ireturn, 1) := by decide +kernel
theorem dX3_sumUpTo_0 : decode cX3_sumUpTo 0 = .ok (.aload_n 0, 1) := by decide +kernel
theorem dX3_sumUpTo_1 : decode cX3_sumUpTo 1 = .ok (.getfield 15, 3) := by decide +kernel
theorem dX3_sumUpTo_4 : decode cX3_sumUpTo 4 = .ok (.iload_n 1, 1) := by decide +kernel
theorem dX3_sumUpTo_5 : decode cX3_sumUpTo 5 = .ok (.iaload, 1) := by decide +kernel
theorem dX3_sumUpTo_6 : decode cX3_sumUpTo 6 = .ok (.istore_n 2, 1) := by decide +kernel
theorem dX3_sumUpTo_7 : decode cX3_sumUpTo 7 = .ok (.iconst 0, 1) := by decide +kernel
theorem dX3_sumUpTo_8 : decode cX3_sumUpTo 8 = .ok (.istore_n 3, 1) := by decide +kernel
theorem dX3_sumUpTo_9 : decode cX3_sumUpTo 9 = .ok (.iload_n 3, 1) := by decide +kernel
theorem dX3_sumUpTo_10 : decode cX3_sumUpTo 10 = .ok (.aload_n 0, 1) := by decide +kernel
theorem dX3_sumUpTo_11 : decode cX3_sumUpTo 11 = .ok (.getfield 22, 3) := by decide +kernel
theorem dX3_sumUpTo_14 : decode cX3_sumUpTo 14 = .ok (.if_icmp .ge 27, 3) := by decide +kernel
theorem dX3_sumUpTo_17 : decode cX3_sumUpTo 17 = .ok (.aload_n 0, 1) := by decide +kernel
theorem dX3_sumUpTo_18 : decode cX3_sumUpTo 18 = .ok (.iload_n 3, 1) := by decide +kernel
theorem dX3_sumUpTo_19 : decode cX3_sumUpTo 19 = .ok (.iload_n 1, 1) := by decide +kernel
theorem dX3_sumUpTo_20 : decode cX3_sumUpTo 20 = .ok (.invokevirtual 34, 3) := by decide +kernel
theorem dX3_sumUpTo_23 : decode cX3_sumUpTo 23 = .ok (.ifCond .eq 12, 3) := by decide +kernel
theorem dX3_sumUpTo_26 : decode cX3_sumUpTo 26 = .ok (.iload_n 2, 1) := by decide +kernel
theorem dX3_sumUpTo_27 : decode cX3_sumUpTo 27 = .ok (.aload_n 0, 1) := by decide +kernel
theorem dX3_sumUpTo_28 : decode cX3_sumUpTo 28 = .ok (.getfield 15, 3) := by decide +kernel
theorem dX3_sumUpTo_31 : decode cX3_sumUpTo 31 = .ok (.iload_n 3, 1) := by decide +kernel
theorem dX3_sumUpTo_32 : decode cX3_sumUpTo 32 = .ok (.iaload, 1) := by decide +kernel
theorem dX3_sumUpTo_33 : decode cX3_sumUpTo 33 = .ok (.iadd, 1) := by decide +kernel
theorem dX3_sumUpTo_34 : decode cX3_sumUpTo 34 = .ok (.istore_n 2, 1) := by decide +kernel
theorem dX3_sumUpTo_35 : decode cX3_sumUpTo 35 = .ok (.iinc 3 1, 3) := by decide +kernel
theorem dX3_sumUpTo_38 : decode cX3_sumUpTo 38 = .ok (.goto (-29), 3) := by decide +kernel
theorem dX3_sumUpTo_41 : decode cX3_sumUpTo 41 = .ok (.iload_n 2, 1) := by decide +kernel
theorem dX3_sumUpTo_42 : decode cX3_sumUpTo 42 = .ok (.ireturn, 1) := by decide +kernel
