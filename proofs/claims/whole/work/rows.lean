section
-- ===== PART A: goes FIRST, ahead of the names: the tables' words, and 'selects' of the private methods out of them =====
/-- a private method of a class that the tables say can be made, by its rows of tables_1 -/
def lw_okq (q : MethodName × Nat) : Prop := (q.1.cls ≠ "java/lang/invoke/MethodHandle" ∧ q.1.cls ≠ "java/lang/invoke/VarHandle") ∧ Cond.instantiable q.1.cls q.2 ∈ tables_1 ∧ Cond.privateMethod q.1 ∈ tables_1 ∧ Cond.instanceMethod q.1 ∈ tables_1
theorem lw_p0 : lw_okq (⟨"Belowhouse", "mixedIn", "(JLBelowhouse$Order;)J"⟩, 6) := ⟨⟨by decide +kernel, by decide +kernel⟩, List.mem_of_getElem? (i := 18) (by decide +kernel), List.mem_of_getElem? (i := 155) (by decide +kernel), List.mem_of_getElem? (i := 156) (by decide +kernel)⟩
theorem lw_p1 : lw_okq (⟨"Belowhouse$RowTable", "passOn", "(LBelowhouse$Order;I)V"⟩, 3) := ⟨⟨by decide +kernel, by decide +kernel⟩, List.mem_of_getElem? (i := 68) (by decide +kernel), List.mem_of_getElem? (i := 182) (by decide +kernel), List.mem_of_getElem? (i := 183) (by decide +kernel)⟩
theorem lw_p2 : lw_okq (⟨"Belowhouse", "orderAt", "(I)LBelowhouse$Order;"⟩, 6) := ⟨⟨by decide +kernel, by decide +kernel⟩, List.mem_of_getElem? (i := 18) (by decide +kernel), List.mem_of_getElem? (i := 230) (by decide +kernel), List.mem_of_getElem? (i := 231) (by decide +kernel)⟩
theorem lw_p3 : lw_okq (⟨"java/lang/Throwable", "fillInStackTrace", "(I)Ljava/lang/Throwable;"⟩, 6) := ⟨⟨by decide +kernel, by decide +kernel⟩, List.mem_of_getElem? (i := 272) (by decide +kernel), List.mem_of_getElem? (i := 270) (by decide +kernel), List.mem_of_getElem? (i := 271) (by decide +kernel)⟩
theorem lw_p4 : lw_okq (⟨"Belowhouse", "orderWith", "(II)LBelowhouse$Order;"⟩, 6) := ⟨⟨by decide +kernel, by decide +kernel⟩, List.mem_of_getElem? (i := 18) (by decide +kernel), List.mem_of_getElem? (i := 379) (by decide +kernel), List.mem_of_getElem? (i := 380) (by decide +kernel)⟩
theorem lw_p5 : lw_okq (⟨"Belowhouse", "orderWithSet", "(II)LBelowhouse$Order;"⟩, 6) := ⟨⟨by decide +kernel, by decide +kernel⟩, List.mem_of_getElem? (i := 18) (by decide +kernel), List.mem_of_getElem? (i := 402) (by decide +kernel), List.mem_of_getElem? (i := 403) (by decide +kernel)⟩
theorem lw_p6 : lw_okq (⟨"Belowhouse", "orderWithBoth", "(III)LBelowhouse$Order;"⟩, 6) := ⟨⟨by decide +kernel, by decide +kernel⟩, List.mem_of_getElem? (i := 18) (by decide +kernel), List.mem_of_getElem? (i := 422) (by decide +kernel), List.mem_of_getElem? (i := 423) (by decide +kernel)⟩
theorem lw_p7 : lw_okq (⟨"Belowhouse", "layOutRow", "(LBelowhouse$Order;I)V"⟩, 6) := ⟨⟨by decide +kernel, by decide +kernel⟩, List.mem_of_getElem? (i := 18) (by decide +kernel), List.mem_of_getElem? (i := 461) (by decide +kernel), List.mem_of_getElem? (i := 462) (by decide +kernel)⟩
theorem lw_p8 : lw_okq (⟨"Belowhouse$RowTable", "waysByLesser", "(LBelowhouse$Order;II)I"⟩, 3) := ⟨⟨by decide +kernel, by decide +kernel⟩, List.mem_of_getElem? (i := 68) (by decide +kernel), List.mem_of_getElem? (i := 471) (by decide +kernel), List.mem_of_getElem? (i := 472) (by decide +kernel)⟩
theorem lw_p9 : lw_okq (⟨"Belowhouse$RowTable", "thingFor", "(LBelowhouse$Order;II)I"⟩, 3) := ⟨⟨by decide +kernel, by decide +kernel⟩, List.mem_of_getElem? (i := 68) (by decide +kernel), List.mem_of_getElem? (i := 480) (by decide +kernel), List.mem_of_getElem? (i := 481) (by decide +kernel)⟩
theorem lw_p10 : lw_okq (⟨"Belowhouse", "joinInto", "(IIIZ)LBelowhouse$Order;"⟩, 6) := ⟨⟨by decide +kernel, by decide +kernel⟩, List.mem_of_getElem? (i := 18) (by decide +kernel), List.mem_of_getElem? (i := 518) (by decide +kernel), List.mem_of_getElem? (i := 519) (by decide +kernel)⟩
theorem lw_p11 : lw_okq (⟨"Belowhouse$RowTable", "waysThrough", "(LBelowhouse$Order;II)I"⟩, 3) := ⟨⟨by decide +kernel, by decide +kernel⟩, List.mem_of_getElem? (i := 68) (by decide +kernel), List.mem_of_getElem? (i := 868) (by decide +kernel), List.mem_of_getElem? (i := 869) (by decide +kernel)⟩
theorem lw_p12 : lw_okq (⟨"Belowhouse$Numbers", "fillFrom", "(LBelowhouse$Order;I)V"⟩, 1) := ⟨⟨by decide +kernel, by decide +kernel⟩, List.mem_of_getElem? (i := 85) (by decide +kernel), List.mem_of_getElem? (i := 928) (by decide +kernel), List.mem_of_getElem? (i := 929) (by decide +kernel)⟩
theorem lw_p13 : lw_okq (⟨"Belowhouse$Numbers", "sumBelow", "(LBelowhouse$Order;I)I"⟩, 1) := ⟨⟨by decide +kernel, by decide +kernel⟩, List.mem_of_getElem? (i := 85) (by decide +kernel), List.mem_of_getElem? (i := 933) (by decide +kernel), List.mem_of_getElem? (i := 934) (by decide +kernel)⟩
theorem lw_p14 : lw_okq (⟨"Belowhouse$Theorem", "linksLeast", "(LBelowhouse$Order;)Z"⟩, 7) := ⟨⟨by decide +kernel, by decide +kernel⟩, List.mem_of_getElem? (i := 95) (by decide +kernel), List.mem_of_getElem? (i := 968) (by decide +kernel), List.mem_of_getElem? (i := 969) (by decide +kernel)⟩
theorem lw_p15 : lw_okq (⟨"Belowhouse$Theorem", "linksLeast", "(LBelowhouse$Order;II)Z"⟩, 7) := ⟨⟨by decide +kernel, by decide +kernel⟩, List.mem_of_getElem? (i := 95) (by decide +kernel), List.mem_of_getElem? (i := 972) (by decide +kernel), List.mem_of_getElem? (i := 973) (by decide +kernel)⟩
def lw_privs_1 : List (MethodName × Nat) := [(⟨"Belowhouse", "mixedIn", "(JLBelowhouse$Order;)J"⟩, 6), (⟨"Belowhouse$RowTable", "passOn", "(LBelowhouse$Order;I)V"⟩, 3), (⟨"Belowhouse", "orderAt", "(I)LBelowhouse$Order;"⟩, 6), (⟨"java/lang/Throwable", "fillInStackTrace", "(I)Ljava/lang/Throwable;"⟩, 6), (⟨"Belowhouse", "orderWith", "(II)LBelowhouse$Order;"⟩, 6), (⟨"Belowhouse", "orderWithSet", "(II)LBelowhouse$Order;"⟩, 6), (⟨"Belowhouse", "orderWithBoth", "(III)LBelowhouse$Order;"⟩, 6), (⟨"Belowhouse", "layOutRow", "(LBelowhouse$Order;I)V"⟩, 6), (⟨"Belowhouse$RowTable", "waysByLesser", "(LBelowhouse$Order;II)I"⟩, 3), (⟨"Belowhouse$RowTable", "thingFor", "(LBelowhouse$Order;II)I"⟩, 3), (⟨"Belowhouse", "joinInto", "(IIIZ)LBelowhouse$Order;"⟩, 6), (⟨"Belowhouse$RowTable", "waysThrough", "(LBelowhouse$Order;II)I"⟩, 3), (⟨"Belowhouse$Numbers", "fillFrom", "(LBelowhouse$Order;I)V"⟩, 1), (⟨"Belowhouse$Numbers", "sumBelow", "(LBelowhouse$Order;I)I"⟩, 1), (⟨"Belowhouse$Theorem", "linksLeast", "(LBelowhouse$Order;)Z"⟩, 7), (⟨"Belowhouse$Theorem", "linksLeast", "(LBelowhouse$Order;II)Z"⟩, 7)]
theorem lw_r1 : ∀ q ∈ lw_privs_1, lw_okq q := List.forall_mem_cons.mpr ⟨lw_p0, List.forall_mem_cons.mpr ⟨lw_p1, List.forall_mem_cons.mpr ⟨lw_p2, List.forall_mem_cons.mpr ⟨lw_p3, List.forall_mem_cons.mpr ⟨lw_p4, List.forall_mem_cons.mpr ⟨lw_p5, List.forall_mem_cons.mpr ⟨lw_p6, List.forall_mem_cons.mpr ⟨lw_p7, List.forall_mem_cons.mpr ⟨lw_p8, List.forall_mem_cons.mpr ⟨lw_p9, List.forall_mem_cons.mpr ⟨lw_p10, List.forall_mem_cons.mpr ⟨lw_p11, List.forall_mem_cons.mpr ⟨lw_p12, List.forall_mem_cons.mpr ⟨lw_p13, List.forall_mem_cons.mpr ⟨lw_p14, List.forall_mem_cons.mpr ⟨lw_p15, fun _ h => absurd h List.not_mem_nil⟩⟩⟩⟩⟩⟩⟩⟩⟩⟩⟩⟩⟩⟩⟩⟩
theorem lw_p16 : lw_okq (⟨"Belowhouse$Theorem", "looseComesBack", "(LBelowhouse$Order;)Z"⟩, 7) := ⟨⟨by decide +kernel, by decide +kernel⟩, List.mem_of_getElem? (i := 95) (by decide +kernel), List.mem_of_getElem? (i := 979) (by decide +kernel), List.mem_of_getElem? (i := 980) (by decide +kernel)⟩
theorem lw_p17 : lw_okq (⟨"Belowhouse$Theorem", "growsByGreatest", "(LBelowhouse$Order;)Z"⟩, 7) := ⟨⟨by decide +kernel, by decide +kernel⟩, List.mem_of_getElem? (i := 95) (by decide +kernel), List.mem_of_getElem? (i := 985) (by decide +kernel), List.mem_of_getElem? (i := 986) (by decide +kernel)⟩
theorem lw_p18 : lw_okq (⟨"Belowhouse$Theorem", "rowsTellPairs", "(LBelowhouse$Order;)Z"⟩, 7) := ⟨⟨by decide +kernel, by decide +kernel⟩, List.mem_of_getElem? (i := 95) (by decide +kernel), List.mem_of_getElem? (i := 994) (by decide +kernel), List.mem_of_getElem? (i := 995) (by decide +kernel)⟩
theorem lw_p19 : lw_okq (⟨"Belowhouse$Theorem", "rowsTellPair", "(LBelowhouse$Order;III)Z"⟩, 7) := ⟨⟨by decide +kernel, by decide +kernel⟩, List.mem_of_getElem? (i := 95) (by decide +kernel), List.mem_of_getElem? (i := 999) (by decide +kernel), List.mem_of_getElem? (i := 1000) (by decide +kernel)⟩
theorem lw_p20 : lw_okq (⟨"Belowhouse$Theorem", "coversFit", "(LBelowhouse$Order;)Z"⟩, 7) := ⟨⟨by decide +kernel, by decide +kernel⟩, List.mem_of_getElem? (i := 95) (by decide +kernel), List.mem_of_getElem? (i := 1004) (by decide +kernel), List.mem_of_getElem? (i := 1005) (by decide +kernel)⟩
theorem lw_p21 : lw_okq (⟨"Belowhouse$Theorem", "closedSetsFit", "(LBelowhouse$Order;)Z"⟩, 7) := ⟨⟨by decide +kernel, by decide +kernel⟩, List.mem_of_getElem? (i := 95) (by decide +kernel), List.mem_of_getElem? (i := 1012) (by decide +kernel), List.mem_of_getElem? (i := 1013) (by decide +kernel)⟩
theorem lw_p22 : lw_okq (⟨"Belowhouse$Theorem", "staysClosedBy", "(LBelowhouse$Order;I)Z"⟩, 7) := ⟨⟨by decide +kernel, by decide +kernel⟩, List.mem_of_getElem? (i := 95) (by decide +kernel), List.mem_of_getElem? (i := 1027) (by decide +kernel), List.mem_of_getElem? (i := 1028) (by decide +kernel)⟩
theorem lw_p23 : lw_okq (⟨"Belowhouse$Theorem", "sumsAreUndone", "(LBelowhouse$Order;)Z"⟩, 7) := ⟨⟨by decide +kernel, by decide +kernel⟩, List.mem_of_getElem? (i := 95) (by decide +kernel), List.mem_of_getElem? (i := 1034) (by decide +kernel), List.mem_of_getElem? (i := 1035) (by decide +kernel)⟩
theorem lw_p24 : lw_okq (⟨"Belowhouse$Theorem", "turnsRound", "(LBelowhouse$Order;)Z"⟩, 7) := ⟨⟨by decide +kernel, by decide +kernel⟩, List.mem_of_getElem? (i := 95) (by decide +kernel), List.mem_of_getElem? (i := 1043) (by decide +kernel), List.mem_of_getElem? (i := 1044) (by decide +kernel)⟩
theorem lw_p25 : lw_okq (⟨"Belowhouse$Theorem", "sizesTurn", "(LBelowhouse$Order;)Z"⟩, 7) := ⟨⟨by decide +kernel, by decide +kernel⟩, List.mem_of_getElem? (i := 95) (by decide +kernel), List.mem_of_getElem? (i := 1048) (by decide +kernel), List.mem_of_getElem? (i := 1049) (by decide +kernel)⟩
theorem lw_p26 : lw_okq (⟨"Belowhouse$Theorem", "besideFits", "(LBelowhouse$Order;LBelowhouse$Order;)Z"⟩, 7) := ⟨⟨by decide +kernel, by decide +kernel⟩, List.mem_of_getElem? (i := 95) (by decide +kernel), List.mem_of_getElem? (i := 1064) (by decide +kernel), List.mem_of_getElem? (i := 1065) (by decide +kernel)⟩
theorem lw_p27 : lw_okq (⟨"Belowhouse$Theorem", "aboveFits", "(LBelowhouse$Order;LBelowhouse$Order;)Z"⟩, 7) := ⟨⟨by decide +kernel, by decide +kernel⟩, List.mem_of_getElem? (i := 95) (by decide +kernel), List.mem_of_getElem? (i := 1076) (by decide +kernel), List.mem_of_getElem? (i := 1077) (by decide +kernel)⟩
theorem lw_p28 : lw_okq (⟨"BelowhouseModel", "lets", "(ZI)Z"⟩, 8) := ⟨⟨by decide +kernel, by decide +kernel⟩, List.mem_of_getElem? (i := 1080) (by decide +kernel), List.mem_of_getElem? (i := 1131) (by decide +kernel), List.mem_of_getElem? (i := 1132) (by decide +kernel)⟩
theorem lw_p29 : lw_okq (⟨"BelowhouseModel", "empty", "(II)V"⟩, 8) := ⟨⟨by decide +kernel, by decide +kernel⟩, List.mem_of_getElem? (i := 1080) (by decide +kernel), List.mem_of_getElem? (i := 1135) (by decide +kernel), List.mem_of_getElem? (i := 1136) (by decide +kernel)⟩
theorem lw_p30 : lw_okq (⟨"BelowhouseModel", "pairsOf", "(I)I"⟩, 8) := ⟨⟨by decide +kernel, by decide +kernel⟩, List.mem_of_getElem? (i := 1080) (by decide +kernel), List.mem_of_getElem? (i := 1143) (by decide +kernel), List.mem_of_getElem? (i := 1144) (by decide +kernel)⟩
theorem lw_p31 : lw_okq (⟨"BelowhouseModel", "isThing", "(II)Z"⟩, 8) := ⟨⟨by decide +kernel, by decide +kernel⟩, List.mem_of_getElem? (i := 1080) (by decide +kernel), List.mem_of_getElem? (i := 1155) (by decide +kernel), List.mem_of_getElem? (i := 1156) (by decide +kernel)⟩
def lw_privs_2 : List (MethodName × Nat) := [(⟨"Belowhouse$Theorem", "looseComesBack", "(LBelowhouse$Order;)Z"⟩, 7), (⟨"Belowhouse$Theorem", "growsByGreatest", "(LBelowhouse$Order;)Z"⟩, 7), (⟨"Belowhouse$Theorem", "rowsTellPairs", "(LBelowhouse$Order;)Z"⟩, 7), (⟨"Belowhouse$Theorem", "rowsTellPair", "(LBelowhouse$Order;III)Z"⟩, 7), (⟨"Belowhouse$Theorem", "coversFit", "(LBelowhouse$Order;)Z"⟩, 7), (⟨"Belowhouse$Theorem", "closedSetsFit", "(LBelowhouse$Order;)Z"⟩, 7), (⟨"Belowhouse$Theorem", "staysClosedBy", "(LBelowhouse$Order;I)Z"⟩, 7), (⟨"Belowhouse$Theorem", "sumsAreUndone", "(LBelowhouse$Order;)Z"⟩, 7), (⟨"Belowhouse$Theorem", "turnsRound", "(LBelowhouse$Order;)Z"⟩, 7), (⟨"Belowhouse$Theorem", "sizesTurn", "(LBelowhouse$Order;)Z"⟩, 7), (⟨"Belowhouse$Theorem", "besideFits", "(LBelowhouse$Order;LBelowhouse$Order;)Z"⟩, 7), (⟨"Belowhouse$Theorem", "aboveFits", "(LBelowhouse$Order;LBelowhouse$Order;)Z"⟩, 7), (⟨"BelowhouseModel", "lets", "(ZI)Z"⟩, 8), (⟨"BelowhouseModel", "empty", "(II)V"⟩, 8), (⟨"BelowhouseModel", "pairsOf", "(I)I"⟩, 8), (⟨"BelowhouseModel", "isThing", "(II)Z"⟩, 8)]
theorem lw_r2 : ∀ q ∈ lw_privs_2, lw_okq q := List.forall_mem_cons.mpr ⟨lw_p16, List.forall_mem_cons.mpr ⟨lw_p17, List.forall_mem_cons.mpr ⟨lw_p18, List.forall_mem_cons.mpr ⟨lw_p19, List.forall_mem_cons.mpr ⟨lw_p20, List.forall_mem_cons.mpr ⟨lw_p21, List.forall_mem_cons.mpr ⟨lw_p22, List.forall_mem_cons.mpr ⟨lw_p23, List.forall_mem_cons.mpr ⟨lw_p24, List.forall_mem_cons.mpr ⟨lw_p25, List.forall_mem_cons.mpr ⟨lw_p26, List.forall_mem_cons.mpr ⟨lw_p27, List.forall_mem_cons.mpr ⟨lw_p28, List.forall_mem_cons.mpr ⟨lw_p29, List.forall_mem_cons.mpr ⟨lw_p30, List.forall_mem_cons.mpr ⟨lw_p31, fun _ h => absurd h List.not_mem_nil⟩⟩⟩⟩⟩⟩⟩⟩⟩⟩⟩⟩⟩⟩⟩⟩
theorem lw_p32 : lw_okq (⟨"BelowhouseModel", "stay", "(II)V"⟩, 8) := ⟨⟨by decide +kernel, by decide +kernel⟩, List.mem_of_getElem? (i := 1080) (by decide +kernel), List.mem_of_getElem? (i := 1159) (by decide +kernel), List.mem_of_getElem? (i := 1160) (by decide +kernel)⟩
theorem lw_p33 : lw_okq (⟨"BelowhouseModel", "becomes", "(II)V"⟩, 8) := ⟨⟨by decide +kernel, by decide +kernel⟩, List.mem_of_getElem? (i := 1080) (by decide +kernel), List.mem_of_getElem? (i := 1166) (by decide +kernel), List.mem_of_getElem? (i := 1167) (by decide +kernel)⟩
theorem lw_p34 : lw_okq (⟨"BelowhouseModel", "isSet", "(II)Z"⟩, 8) := ⟨⟨by decide +kernel, by decide +kernel⟩, List.mem_of_getElem? (i := 1080) (by decide +kernel), List.mem_of_getElem? (i := 1174) (by decide +kernel), List.mem_of_getElem? (i := 1175) (by decide +kernel)⟩
theorem lw_p35 : lw_okq (⟨"BelowhouseModel", "isUpTo", "(III)Z"⟩, 8) := ⟨⟨by decide +kernel, by decide +kernel⟩, List.mem_of_getElem? (i := 1080) (by decide +kernel), List.mem_of_getElem? (i := 1186) (by decide +kernel), List.mem_of_getElem? (i := 1187) (by decide +kernel)⟩
theorem lw_p36 : lw_okq (⟨"BelowhouseModel", "next", "(III)Z"⟩, 8) := ⟨⟨by decide +kernel, by decide +kernel⟩, List.mem_of_getElem? (i := 1080) (by decide +kernel), List.mem_of_getElem? (i := 1194) (by decide +kernel), List.mem_of_getElem? (i := 1195) (by decide +kernel)⟩
theorem lw_p37 : lw_okq (⟨"BelowhouseModel", "rowsOf", "(I)I"⟩, 8) := ⟨⟨by decide +kernel, by decide +kernel⟩, List.mem_of_getElem? (i := 1080) (by decide +kernel), List.mem_of_getElem? (i := 1202) (by decide +kernel), List.mem_of_getElem? (i := 1203) (by decide +kernel)⟩
theorem lw_p38 : lw_okq (⟨"BelowhouseModel", "follow", "(IIIZ)I"⟩, 8) := ⟨⟨by decide +kernel, by decide +kernel⟩, List.mem_of_getElem? (i := 1080) (by decide +kernel), List.mem_of_getElem? (i := 1206) (by decide +kernel), List.mem_of_getElem? (i := 1207) (by decide +kernel)⟩
theorem lw_p39 : lw_okq (⟨"BelowhouseModel", "lowerOf", "(II)I"⟩, 8) := ⟨⟨by decide +kernel, by decide +kernel⟩, List.mem_of_getElem? (i := 1080) (by decide +kernel), List.mem_of_getElem? (i := 1210) (by decide +kernel), List.mem_of_getElem? (i := 1211) (by decide +kernel)⟩
theorem lw_p40 : lw_okq (⟨"BelowhouseModel", "lineUp", "(II)I"⟩, 8) := ⟨⟨by decide +kernel, by decide +kernel⟩, List.mem_of_getElem? (i := 1080) (by decide +kernel), List.mem_of_getElem? (i := 1217) (by decide +kernel), List.mem_of_getElem? (i := 1218) (by decide +kernel)⟩
theorem lw_p41 : lw_okq (⟨"BelowhouseModel", "canJoin", "(III)Z"⟩, 8) := ⟨⟨by decide +kernel, by decide +kernel⟩, List.mem_of_getElem? (i := 1080) (by decide +kernel), List.mem_of_getElem? (i := 1233) (by decide +kernel), List.mem_of_getElem? (i := 1234) (by decide +kernel)⟩
theorem lw_p42 : lw_okq (⟨"BelowhouseModel", "joins", "(IIZ)V"⟩, 8) := ⟨⟨by decide +kernel, by decide +kernel⟩, List.mem_of_getElem? (i := 1080) (by decide +kernel), List.mem_of_getElem? (i := 1237) (by decide +kernel), List.mem_of_getElem? (i := 1238) (by decide +kernel)⟩
theorem lw_p43 : lw_okq (⟨"BelowhouseModel", "upperOf", "(II)I"⟩, 8) := ⟨⟨by decide +kernel, by decide +kernel⟩, List.mem_of_getElem? (i := 1080) (by decide +kernel), List.mem_of_getElem? (i := 1277) (by decide +kernel), List.mem_of_getElem? (i := 1278) (by decide +kernel)⟩
theorem lw_p44 : lw_okq (⟨"BelowhouseModel", "isAll", "(IIZ)Z"⟩, 8) := ⟨⟨by decide +kernel, by decide +kernel⟩, List.mem_of_getElem? (i := 1080) (by decide +kernel), List.mem_of_getElem? (i := 1297) (by decide +kernel), List.mem_of_getElem? (i := 1298) (by decide +kernel)⟩
theorem lw_p45 : lw_okq (⟨"BelowhouseModel", "levelOf", "(II)I"⟩, 8) := ⟨⟨by decide +kernel, by decide +kernel⟩, List.mem_of_getElem? (i := 1080) (by decide +kernel), List.mem_of_getElem? (i := 1309) (by decide +kernel), List.mem_of_getElem? (i := 1310) (by decide +kernel)⟩
theorem lw_p46 : lw_okq (⟨"BelowhouseModel", "mostOf", "(IZ)I"⟩, 8) := ⟨⟨by decide +kernel, by decide +kernel⟩, List.mem_of_getElem? (i := 1080) (by decide +kernel), List.mem_of_getElem? (i := 1317) (by decide +kernel), List.mem_of_getElem? (i := 1318) (by decide +kernel)⟩
theorem lw_p47 : lw_okq (⟨"BelowhouseModel", "fewestOf", "(IZ)I"⟩, 8) := ⟨⟨by decide +kernel, by decide +kernel⟩, List.mem_of_getElem? (i := 1080) (by decide +kernel), List.mem_of_getElem? (i := 1329) (by decide +kernel), List.mem_of_getElem? (i := 1330) (by decide +kernel)⟩
def lw_privs_3 : List (MethodName × Nat) := [(⟨"BelowhouseModel", "stay", "(II)V"⟩, 8), (⟨"BelowhouseModel", "becomes", "(II)V"⟩, 8), (⟨"BelowhouseModel", "isSet", "(II)Z"⟩, 8), (⟨"BelowhouseModel", "isUpTo", "(III)Z"⟩, 8), (⟨"BelowhouseModel", "next", "(III)Z"⟩, 8), (⟨"BelowhouseModel", "rowsOf", "(I)I"⟩, 8), (⟨"BelowhouseModel", "follow", "(IIIZ)I"⟩, 8), (⟨"BelowhouseModel", "lowerOf", "(II)I"⟩, 8), (⟨"BelowhouseModel", "lineUp", "(II)I"⟩, 8), (⟨"BelowhouseModel", "canJoin", "(III)Z"⟩, 8), (⟨"BelowhouseModel", "joins", "(IIZ)V"⟩, 8), (⟨"BelowhouseModel", "upperOf", "(II)I"⟩, 8), (⟨"BelowhouseModel", "isAll", "(IIZ)Z"⟩, 8), (⟨"BelowhouseModel", "levelOf", "(II)I"⟩, 8), (⟨"BelowhouseModel", "mostOf", "(IZ)I"⟩, 8), (⟨"BelowhouseModel", "fewestOf", "(IZ)I"⟩, 8)]
theorem lw_r3 : ∀ q ∈ lw_privs_3, lw_okq q := List.forall_mem_cons.mpr ⟨lw_p32, List.forall_mem_cons.mpr ⟨lw_p33, List.forall_mem_cons.mpr ⟨lw_p34, List.forall_mem_cons.mpr ⟨lw_p35, List.forall_mem_cons.mpr ⟨lw_p36, List.forall_mem_cons.mpr ⟨lw_p37, List.forall_mem_cons.mpr ⟨lw_p38, List.forall_mem_cons.mpr ⟨lw_p39, List.forall_mem_cons.mpr ⟨lw_p40, List.forall_mem_cons.mpr ⟨lw_p41, List.forall_mem_cons.mpr ⟨lw_p42, List.forall_mem_cons.mpr ⟨lw_p43, List.forall_mem_cons.mpr ⟨lw_p44, List.forall_mem_cons.mpr ⟨lw_p45, List.forall_mem_cons.mpr ⟨lw_p46, List.forall_mem_cons.mpr ⟨lw_p47, fun _ h => absurd h List.not_mem_nil⟩⟩⟩⟩⟩⟩⟩⟩⟩⟩⟩⟩⟩⟩⟩⟩
theorem lw_p48 : lw_okq (⟨"BelowhouseModel", "manyOf", "(II)I"⟩, 8) := ⟨⟨by decide +kernel, by decide +kernel⟩, List.mem_of_getElem? (i := 1080) (by decide +kernel), List.mem_of_getElem? (i := 1345) (by decide +kernel), List.mem_of_getElem? (i := 1346) (by decide +kernel)⟩
theorem lw_p49 : lw_okq (⟨"BelowhouseModel", "isClosed", "(II)Z"⟩, 8) := ⟨⟨by decide +kernel, by decide +kernel⟩, List.mem_of_getElem? (i := 1080) (by decide +kernel), List.mem_of_getElem? (i := 1349) (by decide +kernel), List.mem_of_getElem? (i := 1350) (by decide +kernel)⟩
theorem lw_p50 : lw_okq (⟨"BelowhouseModel", "closure", "(II)I"⟩, 8) := ⟨⟨by decide +kernel, by decide +kernel⟩, List.mem_of_getElem? (i := 1080) (by decide +kernel), List.mem_of_getElem? (i := 1353) (by decide +kernel), List.mem_of_getElem? (i := 1354) (by decide +kernel)⟩
theorem lw_p51 : lw_okq (⟨"BelowhouseModel", "placeIn", "(II)I"⟩, 8) := ⟨⟨by decide +kernel, by decide +kernel⟩, List.mem_of_getElem? (i := 1080) (by decide +kernel), List.mem_of_getElem? (i := 1369) (by decide +kernel), List.mem_of_getElem? (i := 1370) (by decide +kernel)⟩
theorem lw_p52 : lw_okq (⟨"BelowhouseModel", "placeOfRow", "(II)I"⟩, 8) := ⟨⟨by decide +kernel, by decide +kernel⟩, List.mem_of_getElem? (i := 1080) (by decide +kernel), List.mem_of_getElem? (i := 1408) (by decide +kernel), List.mem_of_getElem? (i := 1409) (by decide +kernel)⟩
theorem lw_p53 : lw_okq (⟨"BelowhouseModel", "with", "(III)I"⟩, 8) := ⟨⟨by decide +kernel, by decide +kernel⟩, List.mem_of_getElem? (i := 1080) (by decide +kernel), List.mem_of_getElem? (i := 1420) (by decide +kernel), List.mem_of_getElem? (i := 1421) (by decide +kernel)⟩
theorem lw_p54 : lw_okq (⟨"BelowhouseModel", "at", "(III)I"⟩, 8) := ⟨⟨by decide +kernel, by decide +kernel⟩, List.mem_of_getElem? (i := 1080) (by decide +kernel), List.mem_of_getElem? (i := 1428) (by decide +kernel), List.mem_of_getElem? (i := 1429) (by decide +kernel)⟩
theorem lw_p55 : lw_okq (⟨"BelowhouseModel", "sumOf", "(II)I"⟩, 8) := ⟨⟨by decide +kernel, by decide +kernel⟩, List.mem_of_getElem? (i := 1080) (by decide +kernel), List.mem_of_getElem? (i := 1444) (by decide +kernel), List.mem_of_getElem? (i := 1445) (by decide +kernel)⟩
theorem lw_p56 : lw_okq (⟨"BelowhouseModel", "numberOf", "(III)I"⟩, 8) := ⟨⟨by decide +kernel, by decide +kernel⟩, List.mem_of_getElem? (i := 1080) (by decide +kernel), List.mem_of_getElem? (i := 1452) (by decide +kernel), List.mem_of_getElem? (i := 1453) (by decide +kernel)⟩
def lw_privs_4 : List (MethodName × Nat) := [(⟨"BelowhouseModel", "manyOf", "(II)I"⟩, 8), (⟨"BelowhouseModel", "isClosed", "(II)Z"⟩, 8), (⟨"BelowhouseModel", "closure", "(II)I"⟩, 8), (⟨"BelowhouseModel", "placeIn", "(II)I"⟩, 8), (⟨"BelowhouseModel", "placeOfRow", "(II)I"⟩, 8), (⟨"BelowhouseModel", "with", "(III)I"⟩, 8), (⟨"BelowhouseModel", "at", "(III)I"⟩, 8), (⟨"BelowhouseModel", "sumOf", "(II)I"⟩, 8), (⟨"BelowhouseModel", "numberOf", "(III)I"⟩, 8)]
theorem lw_r4 : ∀ q ∈ lw_privs_4, lw_okq q := List.forall_mem_cons.mpr ⟨lw_p48, List.forall_mem_cons.mpr ⟨lw_p49, List.forall_mem_cons.mpr ⟨lw_p50, List.forall_mem_cons.mpr ⟨lw_p51, List.forall_mem_cons.mpr ⟨lw_p52, List.forall_mem_cons.mpr ⟨lw_p53, List.forall_mem_cons.mpr ⟨lw_p54, List.forall_mem_cons.mpr ⟨lw_p55, List.forall_mem_cons.mpr ⟨lw_p56, fun _ h => absurd h List.not_mem_nil⟩⟩⟩⟩⟩⟩⟩⟩⟩
def lw_privs : List (MethodName × Nat) := lw_privs_1 ++ (lw_privs_2 ++ (lw_privs_3 ++ (lw_privs_4)))
def lw_tbl : List Cond := k2_sels lw_privs ++ tables_1
theorem lw_privs_ok : ∀ q ∈ lw_privs, lw_okq q := by
  show ∀ q ∈ lw_privs_1 ++ (lw_privs_2 ++ (lw_privs_3 ++ (lw_privs_4))), lw_okq q
  exact List.forall_mem_append.mpr ⟨lw_r1, List.forall_mem_append.mpr ⟨lw_r2, List.forall_mem_append.mpr ⟨lw_r3, lw_r4⟩⟩⟩
/-- the streams that the claim lets the run draw from -/
abbrev lw_cs : List Choice := [Jvm.Choice.named "NaN.bits"]
theorem lw_bits : nanBits ∈ lw_cs := by first | decide | exact List.mem_cons_self | simp [lw_cs, nanBits]
/-! ===== BEGIN words of one list among another's, by their places ===== -/
theorem goodIn_r {big : List Cond} (ws : List Cond) (ps : List Nat) (hp : ws = ps.filterMap (fun i => big[i]?)) (h : ws.all goodWord = true) : GoodIn big ws := by
  intro w hw
  have h1 := List.all_eq_true.mp h w hw
  rw [hp] at hw
  obtain ⟨i, -, hi⟩ := List.mem_filterMap.mp hw
  have hm : w ∈ big := by first | exact List.mem_of_getElem? hi | exact List.getElem?_mem hi
  exact ⟨hm, good_of_word h1⟩
theorem goodIn_app {big a b : List Cond} (ha : GoodIn big a) (hb : GoodIn big b) : GoodIn big (a ++ b) := fun w h => (List.mem_append.mp h).elim (ha w) (hb w)
theorem goodIn_ca {big a b : List Cond} {c : Cond} (ha : GoodIn big (c :: a)) (hb : GoodIn big b) : GoodIn big (c :: (a ++ b)) := fun w h => (List.mem_cons.mp h).elim (fun e => ha w (List.mem_cons.mpr (Or.inl e))) (fun h => (List.mem_append.mp h).elim (fun h => ha w (List.mem_cons.mpr (Or.inr h))) (hb w))
theorem goodIn_sub {big ws : List Cond} (hm : ∀ w ∈ ws, w ∈ big) (h : ws.all goodWord = true) : GoodIn big ws := fun w hw => ⟨hm w hw, good_of_word (List.all_eq_true.mp h w hw)⟩
/-! ===== END ===== -/


/-! ===== BEGIN exceptions that leave a method, and their catching by the caller (launches without stack traces) ===== -/
section VXA
/-! The laws vx_back, vx_callV, vx_callS, vx_callSW, vx_throw0, vx_throwS follow proofs of the library, with one case more: JvmDerived/Free/Laws.lean (Back.of_free), Shelf42/LK1.lean (callV, callS), Shelf/KitTraced.lean (throwNew0V, throwNewS). -/
/-- where a method has thrown q: the class by its name, the cell, what was written, the world -/
def vx_T (XC : String → State → State → Prop) (st : State) (q : Addr) (t : State) (mc ms : Nat) (free : Addr → Prop) : Prop :=
  ∃ (E : String) (ce : Cell) (L : List Loc), XC E st t ∧ t.heap[q]? = some ce ∧ ce.vm = .none ∧ st.vm.findClass E = some ce.cls ∧ st.WarmedH t.vm ∧ st.sameButNew ({ t with vm := st.vm } : State) L mc ms ∧ ∀ z ∈ L, free z.base
def vx_Q (Qc : Array Value → State → Outcome → State → Prop) (XC : String → State → State → Prop) (mc ms : Nat) (free : Addr → Prop) : Array Value → State → Outcome → State → Prop := fun a st o t =>
  (Qc a st o t ∧ ∃ L, FrameEnd st o t L mc ms ∧ ∀ q ∈ L, free q.base) ∨ ∃ q, o = .threw q ∧ vx_T XC st q t mc ms free
/-- a callee that returns or throws -/
def vx_Met (l : Launch) (y : MethodName) (ws : List Cond) (rm : Room) (Pc : Array Value → State → Prop) (Qc : Array Value → State → Outcome → State → Prop) (XC : String → State → State → Prop) (mc ms : Nat) (free : Addr → Prop) : Prop :=
  MetFree l y (headSpec ws rm) Pc (fun _ _ _ _ _ => True) (vx_Q Qc XC mc ms free)
def vx_Post (XC : String → State → State → Prop) (mc ms : Nat) (free : Addr → Prop) : Pt → Array Value → Addr → Pt → Prop := fun A a q B =>
  ∃ (g : JFrame) (mk : MethodId) (t : State) (L : List Loc) (E : String) (ce : Cell), B.U.heap = t.heap ∧ B.U.vm = t.vm ∧ XC E (A.U.calling g mk a) t ∧ t.heap[q]? = some ce ∧ ce.vm = .none ∧ A.U.vm.findClass E = some ce.cls ∧ B.locs = A.locs ++ L ∧ (∀ z ∈ L, free z.base) ∧ B.cells = A.cells + mc ∧ B.slots = A.slots + ms
def vx_Back (l : Launch) (R : Room) (p : Program) (e : Env) (below : List Frame) (s : State) (sargs : Array Value) (y : MethodName) (len W9 : Nat)
    (Pre : Pt → Array Value → Prop) (Post : Pt → Array Value → Option Value → Pt → Prop) (PostX : Pt → Array Value → Addr → Pt → Prop) : Prop :=
  ∀ (m : MethodId) (meth : Method) (c : Code) (A : Pt) (g : JFrame) (ig : Instr) (mk : MethodId) (a : Array Value),
    Stand p l e R s m sargs below meth c A.U A.locs A.cells A.slots → g.method = m → g.locals.size = c.maxLocals → decode c.code g.pc = .ok (ig, len) →
    2 * g.monitorRoom + (g.stack.map fun v => v.category).sum ≤ W9 → A.U.methodNamed? y = some mk → Pre A a →
    (∃ (v : Option Value) (B : Pt), Stand p l e R s m sargs below meth c B.U B.locs B.cells B.slots ∧ Post A a v B ∧
      Steps p.tables e below (doInvoke e (A.U.setTop g) [] mk a).1 (B.U.setTop { g with pc := g.pc + len, stack := v.toList ++ g.stack })) ∨
    (∃ (q : Addr) (B : Pt), Stand p l e R s m sargs below meth c B.U B.locs B.cells B.slots ∧ PostX A a q B ∧
      Steps p.tables e below (doInvoke e (A.U.setTop g) [] mk a).1 ((B.U.setTop g).pushFrame (.throwing q)))
section Payer
variable {l : Launch} {R : Room} {p : Program} {e : Env} {below : List Frame} {s : State} {sargs : Array Value} {y : MethodName} {len W9 : Nat}
theorem vx_back {ws : List Cond} {rm : Room} {Pc : Array Value → State → Prop} {Qc : Array Value → State → Outcome → State → Prop} {XC : String → State → State → Prop} {mc ms : Nat} {free : Addr → Prop} {bytes : ByteArray} {maxL : Nat} {ret : Option FieldType}
    (hM : vx_Met l y ws rm Pc Qc XC mc ms free) (hblind : FrameBlind Pc) (hrc : rm.cells = mc) (hrs : rm.slots = ms)
    (hframes : rm.frames + 1 ≤ R.frames) (hlocals : W9 + (maxL + 11) + rm.locals ≤ R.locals)
    (hws : ∀ w ∈ ws, ∀ a' U, s.WarmedH U.vm → w.before a' U = true) (hcode : Cond.code y bytes maxL ret ∈ ws) (hinit : ∀ a' U, s.WarmedH U.vm → (Cond.initialized y.cls).before a' U = true) :
    vx_Back l R p e below s sargs y len W9 (PreOf R mc ms Pc) (PostOf Qc mc ms free) (vx_Post XC mc ms free) := by
  intro m meth c A g ig mk a X hg hsize hdg hW hn hp
  have h1 : (headSpec ws rm).pre.before a A.U = true := atoms_intro fun w hw => hws w hw _ _ X.warmed
  have h2 : (Cond.code y bytes maxL ret).before a A.U = true := hws _ hcode _ _ X.warmed
  have h3 : (Cond.initialized y.cls).before a A.U = true := hinit _ _ X.warmed
  have h4 : A.cells + (headSpec ws rm).room.cells ≤ R.cells := by rw [show (headSpec ws rm).room.cells = mc from hrc]; exact hp.1
  have h5 : A.slots + (headSpec ws rm).room.slots ≤ R.slots := by rw [show (headSpec ws rm).room.slots = ms from hrs]; exact hp.2.1
  have hPc : Pc a (A.U.calling g mk a) := hblind _ _ _ _ hp.2.2
  obtain ⟨U, Ls, c0, s0⟩ := A
  dsimp only [Pt.U, Pt.locs, Pt.cells, Pt.slots] at h1 h2 h3 h4 h5 X hn hPc ⊢
  obtain ⟨methY, cY, hmY, hcY, -, hlY, -, -, -, -⟩ := Cond.code_spec hn h2
  obtain ⟨kY, hkY, -⟩ := className_of_methodNamed hn
  have hinitY : kY.init = .initialized := Cond.initialized_spec (findClass_of_methodNamed hn) hkY h3
  have h : At U g.method c below := by rw [hg]; exact X.here
  have hlocals9 : W9 + (maxL + 11) + (headSpec ws rm).room.locals ≤ R.locals := hlocals
  have happ : (headSpec ws rm).appliesLoose y e.platform (U.calling g mk a) = true :=
    Spec.appliesLoose_calling (g := g) h hdg hn hkY hinitY
      (X.room_calling (g := g) (R' := (headSpec ws rm).room) hsize hmY hcY hframes (by rw [hlY]; omega) h4 h5) h1
  obtain ⟨mid, hmid⟩ := h.above
  have hfr : (U.setTop g).frames = (.java g :: mid) ++ below := by rw [State.frames_setTop' g h.top, hmid]; rfl
  obtain ⟨o, s₂, hsteps, -, hend, hq⟩ := Steps.callFree hM p X.admits X.cas X.clock (acts := []) hfr happ hPc trivial
  have hq' : vx_Q Qc XC mc ms free a (U.calling g mk a) o s₂ := hq
  rw [State.frames_setTop' g h.top] at hend
  obtain ⟨g₀, hg0⟩ := Option.isSome_iff_exists.mp h.top
  obtain ⟨r, hr⟩ := State.topJava?_eq_some.mp hg0
  have hr' : (({ U with heap := s₂.heap, slotsUsed := s₂.slotsUsed } : State).setVm s₂.vm).frames = .java g₀ :: r := hr
  rcases hq' with ⟨hqc, L, hfe, hL⟩ | ⟨q, rfl, E, ce, L, hx, hce, hcv, hcl, hW₂, hsm, hL⟩
  · obtain ⟨⟨v, rfl⟩, hW₂, e2, q2, q3, q4, q5, q6⟩ := id hfe
    have e3 : s₂ = ({ (U.calling g mk a).setFrames s₂.frames with heap := s₂.heap, slotsUsed := s₂.slotsUsed } : State).setVm s₂.vm := by
      have : s₂ = ({ s₂ with vm := (U.calling g mk a).vm } : State).setVm s₂.vm := rfl
      rw [e2] at this
      exact this
    obtain ⟨c₂, i₂, len₂, hc₂, hd₂, hf₂⟩ := hend
    have hW' : U.WarmedH s₂.vm := hW₂
    have hcc : c₂ = c := by
      have h1 : s₂.code? g.method = U.code? g.method := by
        rw [State.code?_eq, State.code?_eq, hW'.alike.method?]
      exact Option.some.inj (hc₂.symm.trans (h1.trans h.code))
    subst hcc
    have hlen : len₂ = len := by rw [hdg] at hd₂; cases hd₂; rfl
    subst hlen
    have hs₂ : s₂ = (({ U with heap := s₂.heap, slotsUsed := s₂.slotsUsed } : State).setVm s₂.vm).setTop { g with pc := g.pc + len₂, stack := v.toList ++ g.stack } := by
      refine e3.trans ?_
      rw [hf₂, State.calling_eq h.top, State.setFrames_setFrames, State.setTop_of_frames _ hr', hr]
      rfl
    have hsame : U.sameButNew ({ U with heap := s₂.heap, slotsUsed := s₂.slotsUsed } : State) L mc ms := by
      refine ⟨?_, q2, q3, q4, q5, q6⟩
      obtain ⟨t, ht, -⟩ := State.frames_cons hr
      show ({ U with heap := s₂.heap, slotsUsed := s₂.slotsUsed } : State) = { U.setFrames U.frames with heap := s₂.heap, slotsUsed := s₂.slotsUsed }
      rw [State.setFrames_self ht]
    subst hg
    refine Or.inl ⟨v, ⟨(({ U with heap := s₂.heap, slotsUsed := s₂.slotsUsed } : State).setVm s₂.vm), Ls ++ L, c0 + mc, s0 + ms⟩,
      ⟨X.admits, X.cas, X.clock, X.frames, X.room, X.hears, X.method, X.code, (X.here.setHeapUsed s₂.heap s₂.slotsUsed).setVm hW'.alike, X.tail, State.WarmedH.trans X.warmed hW', X.limits, X.bytes, X.same.trans (hsame.setVm s.vm)⟩,
      ⟨g, mk, s₂, L, rfl, rfl, hqc, rfl, hL, rfl, rfl⟩, ?_⟩
    show Steps p.tables e below _ ((({ U with heap := s₂.heap, slotsUsed := s₂.slotsUsed } : State).setVm s₂.vm).setTop { g with pc := g.pc + len₂, stack := v.toList ++ g.stack })
    rw [← hs₂]
    exact hsteps
  · obtain ⟨e2, q2, q3, q4, q5, q6⟩ := id hsm
    have e3 : s₂ = ({ (U.calling g mk a).setFrames s₂.frames with heap := s₂.heap, slotsUsed := s₂.slotsUsed } : State).setVm s₂.vm := by
      have : s₂ = ({ s₂ with vm := (U.calling g mk a).vm } : State).setVm s₂.vm := rfl
      rw [e2] at this
      exact this
    have hf₂ : s₂.frames = .throwing q :: .java g :: U.frames.tail := hend
    have hW' : U.WarmedH s₂.vm := hW₂
    have hs₂ : s₂ = ((({ U with heap := s₂.heap, slotsUsed := s₂.slotsUsed } : State).setVm s₂.vm).setTop g).pushFrame (.throwing q) := by
      refine e3.trans ?_
      rw [hf₂, State.calling_eq h.top, State.setFrames_setFrames, State.pushFrame, State.frames_setTop _ hr', State.setTop_of_frames _ hr', State.setFrames_setFrames, hr]
      rfl
    have hsame : U.sameButNew ({ U with heap := s₂.heap, slotsUsed := s₂.slotsUsed } : State) L mc ms := by
      refine ⟨?_, q2, q3, q4, q5, q6⟩
      obtain ⟨t, ht, -⟩ := State.frames_cons hr
      show ({ U with heap := s₂.heap, slotsUsed := s₂.slotsUsed } : State) = { U.setFrames U.frames with heap := s₂.heap, slotsUsed := s₂.slotsUsed }
      rw [State.setFrames_self ht]
    subst hg
    refine Or.inr ⟨q, ⟨(({ U with heap := s₂.heap, slotsUsed := s₂.slotsUsed } : State).setVm s₂.vm), Ls ++ L, c0 + mc, s0 + ms⟩,
      ⟨X.admits, X.cas, X.clock, X.frames, X.room, X.hears, X.method, X.code, (X.here.setHeapUsed s₂.heap s₂.slotsUsed).setVm hW'.alike, X.tail, State.WarmedH.trans X.warmed hW', X.limits, X.bytes, X.same.trans (hsame.setVm s.vm)⟩,
      ⟨g, mk, s₂, L, E, ce, rfl, rfl, hx, hce, hcv, hcl, rfl, hL, rfl, rfl⟩, ?_⟩
    show Steps p.tables e below _ (((({ U with heap := s₂.heap, slotsUsed := s₂.slotsUsed } : State).setVm s₂.vm).setTop g).pushFrame (.throwing q))
    rw [← hs₂]
    exact hsteps
end Payer
section Calls
variable {p : Program} {l : Launch} {e : Env} {R : Room} {s : State} {m : MethodId} {args : Array Value} {below : List Frame} {meth : Method} {c : Code} {T : State} {locs : List Loc} {cells slots : Nat}
theorem vx_callV (X : Stand p l e R s m args below meth c T locs cells slots) (hexec : p.tables.exec = Jvm.exec) {own C : String} {index : Nat} {y : MethodName} {bytes : ByteArray} {maxL : Nat} {ret : Option FieldType}
    (hown : s.vm.findClass own = some m.cls) (hlink : (Cond.methodLink own index y).before args s = true) (hinst : (Cond.instanceMethod y).before args s = true) (hsel : (Cond.selects C y y).before args s = true)
    (hcode : (Cond.code y bytes maxL ret).before args s = true) (hy : y.cls ≠ "java/lang/invoke/MethodHandle" ∧ y.cls ≠ "java/lang/invoke/VarHandle")
    {W9 : Nat} {Pre : Pt → Array Value → Prop} {Post : Pt → Array Value → Option Value → Pt → Prop} {PostX : Pt → Array Value → Addr → Pt → Prop} (hK : vx_Back l R p e below s args y 3 W9 Pre Post PostX)
    {b : Addr} {cellB : Cell} (hcell : T.heap[b]? = some cellB) (hobj : cellB.vm.isStatics = false) (hcls : s.vm.findClass C = some cellB.cls)
    {g : JFrame} (hg : g.method = m) (hsize : g.locals.size = c.maxLocals) {argsL rest : List Value} (hlen : ∀ sig, parseMethodDescriptor y.desc = some sig → argsL.length = sig.parameters.length)
    (hstack : g.stack = argsL.reverse ++ .ref b :: rest) (hW : 2 * g.monitorRoom + (rest.map fun v => v.category).sum ≤ W9) (hdg : decode c.code g.pc = .ok (.invokevirtual index, 3))
    (hpre : ∀ vm₁, s.WarmedH vm₁ → Pre ⟨T.setVm vm₁, locs, cells, slots⟩ (Value.ref b :: argsL).toArray) :
    (∃ (v : Option Value) (vm₁ : Vm) (B : Pt), s.WarmedH vm₁ ∧ Stand p l e R s m args below meth c B.U B.locs B.cells B.slots ∧ Post ⟨T.setVm vm₁, locs, cells, slots⟩ (Value.ref b :: argsL).toArray v B ∧
      ∀ target, Steps p.tables e below (B.U.setTop { g with pc := g.pc + 3, stack := v.toList ++ rest }) target → Steps p.tables e below (T.setTop g) target) ∨
    (∃ (q : Addr) (vm₁ : Vm) (B : Pt), s.WarmedH vm₁ ∧ Stand p l e R s m args below meth c B.U B.locs B.cells B.slots ∧ PostX ⟨T.setVm vm₁, locs, cells, slots⟩ (Value.ref b :: argsL).toArray q B ∧
      Steps p.tables e below (T.setTop g) ((B.U.setTop { g with stack := rest }).pushFrame (.throwing q))) := by
  obtain ⟨mk, methM, hnamed, hmethM, hstM, habM⟩ := Cond.instanceMethod_spec hinst
  obtain ⟨methM', cM, hmethM', -, -, -, -, -, -, hsigM⟩ := Cond.code_spec hnamed hcode
  cases hmethM.symm.trans hmethM'
  obtain ⟨c2, r2, m2, q1, q2, q3, q4, kP, hkP, hkPi⟩ := Cond.selects_spec hsel
  cases hcls.symm.trans q1
  cases (State.methodFound?_of_named hnamed hy).symm.trans q2
  cases hnamed.symm.trans q3
  have hselP : selectMethod e.platform s.vm cellB.cls mk = .method mk := by rw [Launch.admits_selectMethod X.admits]; exact q4
  obtain ⟨vm₁, X₁, hstep₁⟩ := X.invokevirtual hexec hown hlink hnamed hmethM hstM hkP hkPi hy (a := b) (cell := cellB) hcell
    (fun z h => by rw [h] at hobj; cases hobj) hselP hmethM habM hkP hkPi (g := g) hg (argsL := argsL) (rest := rest) (hlen _ hsigM) hstack hdg
  rcases hK m meth c ⟨T.setVm vm₁, locs, cells, slots⟩ { g with stack := rest } (.invokevirtual index) mk (Value.ref b :: argsL).toArray X₁ hg hsize hdg hW (X₁.named hnamed) (hpre vm₁ X₁.warmed) with ⟨v, B, X', hpost, hsteps⟩ | ⟨q, B, X', hpost, hsteps⟩
  · exact Or.inl ⟨v, vm₁, B, X₁.warmed, X', hpost, fun target h => hstep₁ _ fun acts => by rw [doInvoke_state]; exact hsteps.trans h⟩
  · exact Or.inr ⟨q, vm₁, B, X₁.warmed, X', hpost, hstep₁ _ fun acts => by rw [doInvoke_state]; exact hsteps⟩
theorem vx_callS (X : Stand p l e R s m args below meth c T locs cells slots) (hexec : p.tables.exec = Jvm.exec) {own : String} {index : Nat} {y : MethodName} {bytes : ByteArray} {maxL : Nat} {ret : Option FieldType}
    (hown : s.vm.findClass own = some m.cls) (hlink : (Cond.methodLink own index y).before args s = true) (hstat : (Cond.static y).before args s = true) (hinit : (Cond.initialized y.cls).before args s = true)
    (hcode : (Cond.code y bytes maxL ret).before args s = true) (hy : y.cls ≠ "java/lang/invoke/MethodHandle" ∧ y.cls ≠ "java/lang/invoke/VarHandle")
    {W9 : Nat} {Pre : Pt → Array Value → Prop} {Post : Pt → Array Value → Option Value → Pt → Prop} {PostX : Pt → Array Value → Addr → Pt → Prop} (hK : vx_Back l R p e below s args y 3 W9 Pre Post PostX)
    {g : JFrame} (hg : g.method = m) (hsize : g.locals.size = c.maxLocals) {argsL rest : List Value} (hlen : ∀ sig, parseMethodDescriptor y.desc = some sig → argsL.length = sig.parameters.length)
    (hstack : g.stack = argsL.reverse ++ rest) (hW : 2 * g.monitorRoom + (rest.map fun v => v.category).sum ≤ W9) (hdg : decode c.code g.pc = .ok (.invokestatic index, 3))
    (hpre : ∀ vm₁, s.WarmedH vm₁ → Pre ⟨T.setVm vm₁, locs, cells, slots⟩ argsL.toArray) :
    (∃ (v : Option Value) (vm₁ : Vm) (B : Pt), s.WarmedH vm₁ ∧ Stand p l e R s m args below meth c B.U B.locs B.cells B.slots ∧ Post ⟨T.setVm vm₁, locs, cells, slots⟩ argsL.toArray v B ∧
      ∀ target, Steps p.tables e below (B.U.setTop { g with pc := g.pc + 3, stack := v.toList ++ rest }) target → Steps p.tables e below (T.setTop g) target) ∨
    (∃ (q : Addr) (vm₁ : Vm) (B : Pt), s.WarmedH vm₁ ∧ Stand p l e R s m args below meth c B.U B.locs B.cells B.slots ∧ PostX ⟨T.setVm vm₁, locs, cells, slots⟩ argsL.toArray q B ∧
      Steps p.tables e below (T.setTop g) ((B.U.setTop { g with stack := rest }).pushFrame (.throwing q))) := by
  obtain ⟨mk, hnamed⟩ := Cond.code_named hcode
  obtain ⟨methM, cM, hmethM, -, -, -, -, -, -, hsigM⟩ := Cond.code_spec hnamed hcode
  have hstatic : methM.isStatic = true := Cond.static_spec hnamed hmethM hstat
  obtain ⟨kP, hkP, -⟩ := className_of_methodNamed hnamed
  have hinitP : kP.init = .initialized := Cond.initialized_spec (findClass_of_methodNamed hnamed) hkP hinit
  obtain ⟨vm₁, X₁, hstep₁⟩ := X.invokestatic hexec hown hlink hnamed hmethM hstatic hkP hinitP hy (g := g) hg (argsL := argsL) (rest := rest) (hlen _ hsigM) hstack hdg
  rcases hK m meth c ⟨T.setVm vm₁, locs, cells, slots⟩ { g with stack := rest } (.invokestatic index) mk argsL.toArray X₁ hg hsize hdg hW (X₁.named hnamed) (hpre vm₁ X₁.warmed) with ⟨v, B, X', hpost, hsteps⟩ | ⟨q, B, X', hpost, hsteps⟩
  · exact Or.inl ⟨v, vm₁, B, X₁.warmed, X', hpost, fun target h => hstep₁ _ fun acts => by rw [doInvoke_state]; exact hsteps.trans h⟩
  · exact Or.inr ⟨q, vm₁, B, X₁.warmed, X', hpost, hstep₁ _ fun acts => by rw [doInvoke_state]; exact hsteps⟩
end Calls
theorem vx_cls {s : State} {T : State} {vm₁ : Vm} {E : String} {k : ClassId} (hW : s.WarmedH vm₁) (h : (T.setVm vm₁).vm.findClass E = some k) : s.vm.findClass E = some k := by
  have h1 : vm₁.findClass E = some k := h
  rw [hW.alike.findClass] at h1
  exact h1
/-- the method's frame g, with q thrown over it -/
def vx_W (p : Program) (l : Launch) (e : Env) (R : Room) (s : State) (m : MethodId) (args : Array Value) (below : List Frame) (meth : Method) (c : Code) (H : Heap) (locs : List Loc) (cells slots : Nat) (Q : State → Prop) (g : JFrame) (q : Addr) : Prop :=
  ∀ T : State, T.heap = H → Stand p l e R s m args below meth c T locs cells slots → ∃ t, Steps p.tables e below ((T.setTop g).pushFrame (.throwing q)) t ∧ Q t
def vx_Run (p : Program) (l : Launch) (e : Env) (R : Room) (s : State) (m : MethodId) (args : Array Value) (below : List Frame) (meth : Method) (c : Code) (H : Heap) (locs : List Loc) (cells slots mc ms : Nat) (g : JFrame) (rest : List Value) (Qa : State → Outcome → State → Prop) (XC : String → State → State → Prop) (free : Addr → Prop) : Prop :=
  ∀ T : State, T.heap = H → Stand p l e R s m args below meth c T locs cells slots →
    (∃ (v : Option Value) (st₀ t T' : State) (L : List Loc), st₀.heap = H ∧ Stand p l e R s m args below meth c T' (locs ++ L) (cells + mc) (slots + ms) ∧ (∀ q ∈ L, free q.base) ∧ T'.heap = t.heap ∧ T'.vm = t.vm ∧ Qa st₀ (.returned v) t ∧
      Goes p e below T g T' { g with pc := g.pc + 3, stack := v.toList ++ rest }) ∨
    (∃ (q : Addr) (st₀ t T' : State) (L : List Loc) (E : String) (ce : Cell), st₀.heap = H ∧ Stand p l e R s m args below meth c T' (locs ++ L) (cells + mc) (slots + ms) ∧ (∀ z ∈ L, free z.base) ∧ T'.heap = t.heap ∧ T'.vm = t.vm ∧ XC E st₀ t ∧ t.heap[q]? = some ce ∧ ce.vm = .none ∧ s.vm.findClass E = some ce.cls ∧
      Steps p.tables e below (T.setTop g) ((T'.setTop { g with stack := rest }).pushFrame (.throwing q)))
def vx_X {S : Type} (px : S → Prop) (B : String → S → State → Prop) (A : Nat → Prop) : String → State → State → Prop := fun E st t => ∃ u : S, px u ∧ B E u t ∧ va_F A st t
section Runs
variable {p : Program} {l : Launch} {e : Env} {R : Room} {s : State} {m : MethodId} {args : Array Value} {below : List Frame} {meth : Method} {c : Code} {H : Heap} {locs : List Loc} {cells slots : Nat}
variable {y : MethodName} {bytes cc : ByteArray} {maxL nL mc ms n index : Nat} {ret : Option FieldType} {ws : List Cond} {rm : Room} {Pc : Array Value → State → Prop} {Qc : Array Value → State → Outcome → State → Prop} {XC : String → State → State → Prop} {free : Addr → Prop} {Ts : List Cond} {own C : String} {b : Addr} {As rest : List Value} {g : JFrame}
theorem vx_callBack (cb : CallB R s args own index y bytes maxL ret ws rm mc ms n) (hM : vx_Met l y ws rm Pc Qc XC mc ms free) (hbl : FrameBlind Pc) : vx_Back l R p e below s args y 3 8 (PreOf R mc ms Pc) (PostOf Qc mc ms free) (vx_Post XC mc ms free) := by
  obtain ⟨hrc, hrs, hfr, hlo, hws, hcw, -, hini, -⟩ := cb
  exact vx_back (bytes := bytes) (maxL := maxL) (ret := ret) hM hbl hrc hrs hfr hlo hws hcw (fun a' U hW => word_at hW (Or.inl (by first | rfl | simp [Cond.onTables, Cond.keeps, Cond.steady])) hini)
theorem vx_runV (S : CallFix p m c cc nL s args Ts own) (hM : vx_Met l y ws rm Pc Qc XC mc ms free) (cw : CallW R s args own C index y bytes maxL ret ws rm mc ms n) (hp : PreV s H C b Pc As)
    (hg : g.method = m) (hn : As.length = n) (hsize : g.locals.size = nL) (hstack : g.stack = As.reverse ++ .ref b :: rest) (hW : 2 * g.monitorRoom + (rest.map fun v => v.category).sum ≤ 8) (hdg : decode cc g.pc = .ok (.invokevirtual index, 3)) (hf : cells + mc ≤ R.cells ∧ slots + ms ≤ R.slots) :
    vx_Run p l e R s m args below meth c H locs cells slots mc ms g rest (Qc (Value.ref b :: As).toArray) XC free := by
  have hK : vx_Back l R p e below s args y 3 8 (PreOf R mc ms Pc) (PostOf Qc mc ms free) (vx_Post XC mc ms free) := vx_callBack cw.1 hM hp.1
  obtain ⟨⟨-, -, -, -, -, -, hcode, -, hy, hlen, hl⟩, hin, hse⟩ := cw
  obtain ⟨hx, hb, hml, ho, -⟩ := S
  obtain ⟨-, ⟨cellB, hcB, hoB, hclB⟩, hPc⟩ := hp
  intro T hT X
  rcases vx_callV X hx (C := C) (bytes := bytes) (maxL := maxL) (ret := ret) ho hl hin hse hcode hy hK (by rw [hT]; exact hcB) hoB hclB hg (hsize.trans hml.symm) (argsL := As) (rest := rest) (fun sig h => hn.trans (hlen sig h)) hstack hW (by rw [hb]; exact hdg)
    (fun vm₁ hW₁ => ⟨hf.1, hf.2, hPc (T.setVm vm₁) hT hW₁⟩) with ⟨v, vm₁, ⟨U', l2, c2, s2⟩, hW₁, X', ⟨g', mk, t, L, e1, e2, hq, h1, hL, h2, h3⟩, st⟩ | ⟨q, vm₁, ⟨U', l2, c2, s2⟩, hW₁, X', ⟨g', mk, t, L, E, ce, e1, e2, hq, hce, hcv, hcl, h1, hL, h2, h3⟩, st⟩
  · dsimp only [Pt.U, Pt.locs, Pt.cells, Pt.slots] at X' e1 e2 h1 h2 h3 st
    subst h1; subst h2; subst h3
    exact Or.inl ⟨v, (T.setVm vm₁).calling g' mk (Value.ref b :: As).toArray, t, U', L, hT, X', hL, e1, e2, hq, st⟩
  · dsimp only [Pt.U, Pt.locs, Pt.cells, Pt.slots] at X' e1 e2 h1 h2 h3 st hcl
    subst h1; subst h2; subst h3
    exact Or.inr ⟨q, (T.setVm vm₁).calling g' mk (Value.ref b :: As).toArray, t, U', L, E, ce, hT, X', hL, e1, e2, hq, hce, hcv, vx_cls hW₁ hcl, st⟩
theorem vx_runS (S : CallFix p m c cc nL s args Ts own) (hM : vx_Met l y ws rm Pc Qc XC mc ms free) (cw : CallB R s args own index y bytes maxL ret ws rm mc ms n ∧ (Cond.static y).before args s = true) (hp : PreS s H Pc As)
    (hg : g.method = m) (hn : As.length = n) (hsize : g.locals.size = nL) (hstack : g.stack = As.reverse ++ rest) (hW : 2 * g.monitorRoom + (rest.map fun v => v.category).sum ≤ 8) (hdg : decode cc g.pc = .ok (.invokestatic index, 3)) (hf : cells + mc ≤ R.cells ∧ slots + ms ≤ R.slots) :
    vx_Run p l e R s m args below meth c H locs cells slots mc ms g rest (Qc As.toArray) XC free := by
  have hK : vx_Back l R p e below s args y 3 8 (PreOf R mc ms Pc) (PostOf Qc mc ms free) (vx_Post XC mc ms free) := vx_callBack cw.1 hM hp.1
  obtain ⟨⟨-, -, -, -, -, -, hcode, hini, hy, hlen, hl⟩, hstt⟩ := cw
  obtain ⟨hx, hb, hml, ho, -⟩ := S
  intro T hT X
  rcases vx_callS X hx (bytes := bytes) (maxL := maxL) (ret := ret) ho hl hstt hini hcode hy hK hg (hsize.trans hml.symm) (argsL := As) (rest := rest) (fun sig h => hn.trans (hlen sig h)) hstack hW (by rw [hb]; exact hdg)
    (fun vm₁ hW₁ => ⟨hf.1, hf.2, hp.2 (T.setVm vm₁) hT hW₁⟩) with ⟨v, vm₁, ⟨U', l2, c2, s2⟩, hW₁, X', ⟨g', mk, t, L, e1, e2, hq, h1, hL, h2, h3⟩, st⟩ | ⟨q, vm₁, ⟨U', l2, c2, s2⟩, hW₁, X', ⟨g', mk, t, L, E, ce, e1, e2, hq, hce, hcv, hcl, h1, hL, h2, h3⟩, st⟩
  · dsimp only [Pt.U, Pt.locs, Pt.cells, Pt.slots] at X' e1 e2 h1 h2 h3 st
    subst h1; subst h2; subst h3
    exact Or.inl ⟨v, (T.setVm vm₁).calling g' mk As.toArray, t, U', L, hT, X', hL, e1, e2, hq, st⟩
  · dsimp only [Pt.U, Pt.locs, Pt.cells, Pt.slots] at X' e1 e2 h1 h2 h3 st hcl
    subst h1; subst h2; subst h3
    exact Or.inr ⟨q, (T.setVm vm₁).calling g' mk As.toArray, t, U', L, E, ce, hT, X', hL, e1, e2, hq, hce, hcv, vx_cls hW₁ hcl, st⟩
end Runs
section Rows
variable {p : Program} {l : Launch} {e : Env} {R : Room} {s : State} {m : MethodId} {args : Array Value} {below : List Frame} {meth : Method} {c : Code} {H : Heap} {locs : List Loc} {cells slots : Nat} {Q : State → Prop}
variable {mc ms : Nat} {free : Addr → Prop} {A0 A1 : Nat → Prop} {H0 : Heap} {a : Array Value} {pc : Nat} {ls : Array Slot} {st0 rest : List Value}
theorem vx_keep {st₀ t T' : State} {L : List Loc} (h0 : st₀.heap = H) (e1 : T'.heap = t.heap) (hS : va_S A0 H0 H locs) (hA : ∀ q, q < H.size → A1 q → A0 q) (hf : ∀ q, free q → A0 q) (hL : ∀ q ∈ L, free q.base) (hF : va_F A1 st₀ t) :
    H.size ≤ T'.heap.size ∧ (∀ q : Nat, q < H.size → ¬ A1 q → T'.heap[q]? = H[q]?) ∧ va_S A0 H0 T'.heap (locs ++ L) := by
  obtain ⟨hz, hk⟩ := hF
  rw [h0] at hz hk
  exact ⟨by rw [e1]; exact hz, fun q h1 h2 => by rw [e1]; exact hk q h1 h2,
    ⟨Nat.le_trans hS.1 (by rw [e1]; exact hz), fun q h1 h2 => by rw [e1, hk q (Nat.lt_of_lt_of_le h1 hS.1) (fun z => h2 (hA q (Nat.lt_of_lt_of_le h1 hS.1) z))]; exact hS.2.1 q h1 h2, fun q hq => by
      rcases List.mem_append.mp hq with h | h
      · exact hS.2.2 q h
      · exact hf _ (hL q h)⟩⟩
theorem vx_calli {S SX : Type} {post : Int32 → S → Prop} {px : SX → Prop} {B : S → State → Prop} {BX : String → SX → State → Prop} {AX : Nat → Prop} (hr : vx_Run p l e R s m args below meth c H locs cells slots mc ms (F0 m pc ls st0) rest (va_Qi post B A1 a) (vx_X px BX AX) free) (hS : va_S A0 H0 H locs) (hA : ∀ q, q < H.size → A1 q → A0 q) (hf : ∀ q, free q → A0 q) (hAX : ∀ q, q < H.size → AX q → A0 q)
    (kx : ∀ (E : String) (ce : Cell) (q9 : Addr) (u : SX) (t : State) (H1 : Heap) (locs1 : List Loc), t.heap = H1 → s.vm.Alike t.vm → px u → BX E u t → H.size ≤ H1.size → (∀ q : Nat, q < H.size → ¬ AX q → H1[q]? = H[q]?) → va_S A0 H0 H1 locs1 → H1[q9]? = some ce → ce.vm = .none → s.vm.findClass E = some ce.cls → vx_W p l e R s m args below meth c H1 locs1 (cells + mc) (slots + ms) Q (F0 m pc ls rest) q9)
    (kk : ∀ (r : Int32) (u : S) (t : State) (H1 : Heap) (locs1 : List Loc), t.heap = H1 → s.vm.Alike t.vm → post r u → B u t → H.size ≤ H1.size → (∀ q : Nat, q < H.size → ¬ A1 q → H1[q]? = H[q]?) → va_S A0 H0 H1 locs1 → W p l e R s m args below meth c H1 locs1 (cells + mc) (slots + ms) Q (F0 m (pc + 3) ls (.int r :: rest))) : W p l e R s m args below meth c H locs cells slots Q (F0 m pc ls st0) := by
  intro T hT X
  rcases hr T hT X with ⟨v, st₀, t, T', L, h0, X', hL, e1, e2, ⟨⟨r, u, hv, hp, hb⟩, hF⟩, st⟩ | ⟨q, st₀, t, T', L, E, ce, h0, X', hL, e1, e2, ⟨u, hp, hb, hF⟩, hce, hcv, hcl, st⟩
  · cases hv
    obtain ⟨k1, k2, k3⟩ := vx_keep h0 e1 hS hA hf hL hF
    obtain ⟨t2, a1, b1⟩ := kk r u t T'.heap (locs ++ L) e1.symm (by rw [← e2]; exact X'.warmed.alike) hp hb k1 k2 k3 T' rfl X'
    exact ⟨t2, st t2 a1, b1⟩
  · obtain ⟨k1, k2, k3⟩ := vx_keep h0 e1 hS hAX hf hL hF
    obtain ⟨t2, a1, b1⟩ := kx E ce q u t T'.heap (locs ++ L) e1.symm (by rw [← e2]; exact X'.warmed.alike) hp hb k1 k2 k3 (by rw [e1]; exact hce) hcv hcl T' rfl X'
    exact ⟨t2, st.trans a1, b1⟩
theorem vx_calll {S SX : Type} {post : Int64 → S → Prop} {px : SX → Prop} {B : S → State → Prop} {BX : String → SX → State → Prop} {AX : Nat → Prop} (hr : vx_Run p l e R s m args below meth c H locs cells slots mc ms (F0 m pc ls st0) rest (va_Ql post B A1 a) (vx_X px BX AX) free) (hS : va_S A0 H0 H locs) (hA : ∀ q, q < H.size → A1 q → A0 q) (hf : ∀ q, free q → A0 q) (hAX : ∀ q, q < H.size → AX q → A0 q)
    (kx : ∀ (E : String) (ce : Cell) (q9 : Addr) (u : SX) (t : State) (H1 : Heap) (locs1 : List Loc), t.heap = H1 → s.vm.Alike t.vm → px u → BX E u t → H.size ≤ H1.size → (∀ q : Nat, q < H.size → ¬ AX q → H1[q]? = H[q]?) → va_S A0 H0 H1 locs1 → H1[q9]? = some ce → ce.vm = .none → s.vm.findClass E = some ce.cls → vx_W p l e R s m args below meth c H1 locs1 (cells + mc) (slots + ms) Q (F0 m pc ls rest) q9)
    (kk : ∀ (r : Int64) (u : S) (t : State) (H1 : Heap) (locs1 : List Loc), t.heap = H1 → s.vm.Alike t.vm → post r u → B u t → H.size ≤ H1.size → (∀ q : Nat, q < H.size → ¬ A1 q → H1[q]? = H[q]?) → va_S A0 H0 H1 locs1 → W p l e R s m args below meth c H1 locs1 (cells + mc) (slots + ms) Q (F0 m (pc + 3) ls (.long r :: rest))) : W p l e R s m args below meth c H locs cells slots Q (F0 m pc ls st0) := by
  intro T hT X
  rcases hr T hT X with ⟨v, st₀, t, T', L, h0, X', hL, e1, e2, ⟨⟨r, u, hv, hp, hb⟩, hF⟩, st⟩ | ⟨q, st₀, t, T', L, E, ce, h0, X', hL, e1, e2, ⟨u, hp, hb, hF⟩, hce, hcv, hcl, st⟩
  · cases hv
    obtain ⟨k1, k2, k3⟩ := vx_keep h0 e1 hS hA hf hL hF
    obtain ⟨t2, a1, b1⟩ := kk r u t T'.heap (locs ++ L) e1.symm (by rw [← e2]; exact X'.warmed.alike) hp hb k1 k2 k3 T' rfl X'
    exact ⟨t2, st t2 a1, b1⟩
  · obtain ⟨k1, k2, k3⟩ := vx_keep h0 e1 hS hAX hf hL hF
    obtain ⟨t2, a1, b1⟩ := kx E ce q u t T'.heap (locs ++ L) e1.symm (by rw [← e2]; exact X'.warmed.alike) hp hb k1 k2 k3 (by rw [e1]; exact hce) hcv hcl T' rfl X'
    exact ⟨t2, st.trans a1, b1⟩
theorem vx_callf {S SX : Type} {post : UInt32 → S → Prop} {px : SX → Prop} {B : S → State → Prop} {BX : String → SX → State → Prop} {AX : Nat → Prop} (hr : vx_Run p l e R s m args below meth c H locs cells slots mc ms (F0 m pc ls st0) rest (va_Qf post B A1 a) (vx_X px BX AX) free) (hS : va_S A0 H0 H locs) (hA : ∀ q, q < H.size → A1 q → A0 q) (hf : ∀ q, free q → A0 q) (hAX : ∀ q, q < H.size → AX q → A0 q)
    (kx : ∀ (E : String) (ce : Cell) (q9 : Addr) (u : SX) (t : State) (H1 : Heap) (locs1 : List Loc), t.heap = H1 → s.vm.Alike t.vm → px u → BX E u t → H.size ≤ H1.size → (∀ q : Nat, q < H.size → ¬ AX q → H1[q]? = H[q]?) → va_S A0 H0 H1 locs1 → H1[q9]? = some ce → ce.vm = .none → s.vm.findClass E = some ce.cls → vx_W p l e R s m args below meth c H1 locs1 (cells + mc) (slots + ms) Q (F0 m pc ls rest) q9)
    (kk : ∀ (r : UInt32) (u : S) (t : State) (H1 : Heap) (locs1 : List Loc), t.heap = H1 → s.vm.Alike t.vm → post r u → B u t → H.size ≤ H1.size → (∀ q : Nat, q < H.size → ¬ A1 q → H1[q]? = H[q]?) → va_S A0 H0 H1 locs1 → W p l e R s m args below meth c H1 locs1 (cells + mc) (slots + ms) Q (F0 m (pc + 3) ls (.float r :: rest))) : W p l e R s m args below meth c H locs cells slots Q (F0 m pc ls st0) := by
  intro T hT X
  rcases hr T hT X with ⟨v, st₀, t, T', L, h0, X', hL, e1, e2, ⟨⟨r, u, hv, hp, hb⟩, hF⟩, st⟩ | ⟨q, st₀, t, T', L, E, ce, h0, X', hL, e1, e2, ⟨u, hp, hb, hF⟩, hce, hcv, hcl, st⟩
  · cases hv
    obtain ⟨k1, k2, k3⟩ := vx_keep h0 e1 hS hA hf hL hF
    obtain ⟨t2, a1, b1⟩ := kk r u t T'.heap (locs ++ L) e1.symm (by rw [← e2]; exact X'.warmed.alike) hp hb k1 k2 k3 T' rfl X'
    exact ⟨t2, st t2 a1, b1⟩
  · obtain ⟨k1, k2, k3⟩ := vx_keep h0 e1 hS hAX hf hL hF
    obtain ⟨t2, a1, b1⟩ := kx E ce q u t T'.heap (locs ++ L) e1.symm (by rw [← e2]; exact X'.warmed.alike) hp hb k1 k2 k3 (by rw [e1]; exact hce) hcv hcl T' rfl X'
    exact ⟨t2, st.trans a1, b1⟩
theorem vx_calld {S SX : Type} {post : UInt64 → S → Prop} {px : SX → Prop} {B : S → State → Prop} {BX : String → SX → State → Prop} {AX : Nat → Prop} (hr : vx_Run p l e R s m args below meth c H locs cells slots mc ms (F0 m pc ls st0) rest (va_Qd post B A1 a) (vx_X px BX AX) free) (hS : va_S A0 H0 H locs) (hA : ∀ q, q < H.size → A1 q → A0 q) (hf : ∀ q, free q → A0 q) (hAX : ∀ q, q < H.size → AX q → A0 q)
    (kx : ∀ (E : String) (ce : Cell) (q9 : Addr) (u : SX) (t : State) (H1 : Heap) (locs1 : List Loc), t.heap = H1 → s.vm.Alike t.vm → px u → BX E u t → H.size ≤ H1.size → (∀ q : Nat, q < H.size → ¬ AX q → H1[q]? = H[q]?) → va_S A0 H0 H1 locs1 → H1[q9]? = some ce → ce.vm = .none → s.vm.findClass E = some ce.cls → vx_W p l e R s m args below meth c H1 locs1 (cells + mc) (slots + ms) Q (F0 m pc ls rest) q9)
    (kk : ∀ (r : UInt64) (u : S) (t : State) (H1 : Heap) (locs1 : List Loc), t.heap = H1 → s.vm.Alike t.vm → post r u → B u t → H.size ≤ H1.size → (∀ q : Nat, q < H.size → ¬ A1 q → H1[q]? = H[q]?) → va_S A0 H0 H1 locs1 → W p l e R s m args below meth c H1 locs1 (cells + mc) (slots + ms) Q (F0 m (pc + 3) ls (.double r :: rest))) : W p l e R s m args below meth c H locs cells slots Q (F0 m pc ls st0) := by
  intro T hT X
  rcases hr T hT X with ⟨v, st₀, t, T', L, h0, X', hL, e1, e2, ⟨⟨r, u, hv, hp, hb⟩, hF⟩, st⟩ | ⟨q, st₀, t, T', L, E, ce, h0, X', hL, e1, e2, ⟨u, hp, hb, hF⟩, hce, hcv, hcl, st⟩
  · cases hv
    obtain ⟨k1, k2, k3⟩ := vx_keep h0 e1 hS hA hf hL hF
    obtain ⟨t2, a1, b1⟩ := kk r u t T'.heap (locs ++ L) e1.symm (by rw [← e2]; exact X'.warmed.alike) hp hb k1 k2 k3 T' rfl X'
    exact ⟨t2, st t2 a1, b1⟩
  · obtain ⟨k1, k2, k3⟩ := vx_keep h0 e1 hS hAX hf hL hF
    obtain ⟨t2, a1, b1⟩ := kx E ce q u t T'.heap (locs ++ L) e1.symm (by rw [← e2]; exact X'.warmed.alike) hp hb k1 k2 k3 (by rw [e1]; exact hce) hcv hcl T' rfl X'
    exact ⟨t2, st.trans a1, b1⟩
theorem vx_callv {S SX : Type} {post : S → Prop} {px : SX → Prop} {B : S → State → Prop} {BX : String → SX → State → Prop} {AX : Nat → Prop} (hr : vx_Run p l e R s m args below meth c H locs cells slots mc ms (F0 m pc ls st0) rest (va_Qv post B A1 a) (vx_X px BX AX) free) (hS : va_S A0 H0 H locs) (hA : ∀ q, q < H.size → A1 q → A0 q) (hf : ∀ q, free q → A0 q) (hAX : ∀ q, q < H.size → AX q → A0 q)
    (kx : ∀ (E : String) (ce : Cell) (q9 : Addr) (u : SX) (t : State) (H1 : Heap) (locs1 : List Loc), t.heap = H1 → s.vm.Alike t.vm → px u → BX E u t → H.size ≤ H1.size → (∀ q : Nat, q < H.size → ¬ AX q → H1[q]? = H[q]?) → va_S A0 H0 H1 locs1 → H1[q9]? = some ce → ce.vm = .none → s.vm.findClass E = some ce.cls → vx_W p l e R s m args below meth c H1 locs1 (cells + mc) (slots + ms) Q (F0 m pc ls rest) q9)
    (kk : ∀ (u : S) (t : State) (H1 : Heap) (locs1 : List Loc), t.heap = H1 → s.vm.Alike t.vm → post u → B u t → H.size ≤ H1.size → (∀ q : Nat, q < H.size → ¬ A1 q → H1[q]? = H[q]?) → va_S A0 H0 H1 locs1 → W p l e R s m args below meth c H1 locs1 (cells + mc) (slots + ms) Q (F0 m (pc + 3) ls (rest))) : W p l e R s m args below meth c H locs cells slots Q (F0 m pc ls st0) := by
  intro T hT X
  rcases hr T hT X with ⟨v, st₀, t, T', L, h0, X', hL, e1, e2, ⟨⟨u, hv, hp, hb⟩, hF⟩, st⟩ | ⟨q, st₀, t, T', L, E, ce, h0, X', hL, e1, e2, ⟨u, hp, hb, hF⟩, hce, hcv, hcl, st⟩
  · cases hv
    obtain ⟨k1, k2, k3⟩ := vx_keep h0 e1 hS hA hf hL hF
    obtain ⟨t2, a1, b1⟩ := kk u t T'.heap (locs ++ L) e1.symm (by rw [← e2]; exact X'.warmed.alike) hp hb k1 k2 k3 T' rfl X'
    exact ⟨t2, st t2 a1, b1⟩
  · obtain ⟨k1, k2, k3⟩ := vx_keep h0 e1 hS hAX hf hL hF
    obtain ⟨t2, a1, b1⟩ := kx E ce q u t T'.heap (locs ++ L) e1.symm (by rw [← e2]; exact X'.warmed.alike) hp hb k1 k2 k3 (by rw [e1]; exact hce) hcv hcl T' rfl X'
    exact ⟨t2, st.trans a1, b1⟩
/-- caught by the row x of this method's table; the rows ahead don't take it -/
theorem vx_catch {own name : String} {E : String} {ce : Cell} {q : Addr} (hown : s.vm.findClass own = some m.cls) (pre : List ExceptionTableEntry) (x : ExceptionTableEntry) (suf : List ExceptionTableEntry) (hsplit : c.exceptionTable.toList = pre ++ x :: suf)
    (hpass : ∀ z ∈ pre, covers z pc = false ∨ (z.catchType ≠ 0 ∧ ∃ nm : String, (Cond.classLink own z.catchType nm).before args s = true ∧ va_Nc E nm s)) (hx : covers x pc = true) (h0 : x.catchType ≠ 0)
    (hlink : (Cond.classLink own x.catchType name).before args s = true) (hcast : (Cond.castable E name).before args s = true) (hcell : H[q]? = some ce) (hv : ce.vm = .none) (hcl : s.vm.findClass E = some ce.cls)
    (kk : W p l e R s m args below meth c H locs cells slots Q (F0 m x.handlerPc ls [.ref q])) : vx_W p l e R s m args below meth c H locs cells slots Q (F0 m pc ls rest) q := by
  intro T hT X
  have hpl : e.platform.magicAccessors = ({} : Platform).magicAccessors := by rw [X.admits.platform]
  obtain ⟨c3, c4, hc3, hc4, hasg⟩ := Cond.castable_spec hcast
  cases Option.some.inj (hc3.symm.trans hcl)
  obtain ⟨c5, hc5, hcl5⟩ := Cond.classLink_spec hown hlink e.platform hpl
  cases Option.some.inj (hc4.symm.trans hc5)
  obtain ⟨vm', X', st⟩ := X.thenCaughtThrough q (g := F0 m pc ls rest) rfl (Steps.refl _) (by rw [hT]; exact hcell) (by rw [hv]; rfl) (by obtain ⟨k9, h9, -⟩ := Vm.findClass_spec hcl; exact ⟨k9, h9⟩) pre x suf hsplit
    (fun z hz => by
      rcases hpass z hz with h | ⟨hz0, nm, hl1, hn1⟩
      · exact Or.inl h
      · obtain ⟨c6, hc6, hcl6⟩ := Cond.classLink_spec hown hl1 e.platform hpl
        obtain ⟨a8, b8, h1, h2, h3⟩ := hn1
        cases Option.some.inj (h1.symm.trans hcl)
        cases Option.some.inj (h2.symm.trans hc6)
        exact Or.inr ⟨hz0, _, hcl6, h3⟩) hx (Or.inr ⟨h0, c4, hcl5, hasg⟩)
  obtain ⟨t, a1, b1⟩ := kk (T.setVm vm') hT X'
  exact ⟨t, st.trans a1, b1⟩
end Rows
section Ends
variable {p : Program} {l : Launch} {e : Env} {R : Room} {s : State} {m : MethodId} {args : Array Value} {below : List Frame} {meth : Method} {c : Code} {H : Heap} {locs : List Loc} {cells slots : Nat} {Q : State → Prop}
variable {mc ms : Nat} {free : Addr → Prop} {A0 A1 : Nat → Prop} {H0 : Heap} {a : Array Value} {ls : Array Slot} {st0 rest : List Value}
variable {Qc : Array Value → State → Outcome → State → Prop} {XC : String → State → State → Prop}
/-- what a body that may throw owes at its end -/
def vx_MQ (below : List Frame) (Qc : Array Value → State → Outcome → State → Prop) (XC : String → State → State → Prop) (a : Array Value) (s : State) (mc ms : Nat) (free : Addr → Prop) : State → Prop := fun t =>
  ∃ o, t.status = .running ∧ Ended t below o ∧ vx_Q Qc XC mc ms free a s o t
theorem vx_ret {g : JFrame} {mc ms : Nat} (k : W p l e R s m args below meth c H locs cells slots (MQ below Qc args s mc ms free) g) : W p l e R s m args below meth c H locs cells slots (vx_MQ below Qc XC args s mc ms free) g := by
  intro T hT X
  obtain ⟨t, a1, o, b1, b2, b3, b4⟩ := k T hT X
  exact ⟨t, a1, o, b1, b2, Or.inl ⟨b3, b4⟩⟩
/-- not caught here: it goes on to the caller -/
theorem vx_widen {g : JFrame} {q : Addr} {k n : Nat} (h1 : cells ≤ k) (h2 : slots ≤ n) (kk : vx_W p l e R s m args below meth c H locs k n Q g q) : vx_W p l e R s m args below meth c H locs cells slots Q g q := fun T hT X => kk T hT (stand_widen X h1 h2)
theorem vx_out {pc : Nat} {E : String} {ce : Cell} {q : Addr} {mc ms : Nat} (hout : ∀ x ∈ c.exceptionTable.toList, covers x pc = false) (hlocks : meth.locks = false) (hcell : H[q]? = some ce) (hv : ce.vm = .none) (hcl : s.vm.findClass E = some ce.cls)
    (hx : ∀ t : State, t.heap = H → s.vm.Alike t.vm → XC E s t) (hf : ∀ z ∈ locs, free z.base) (hc : cells ≤ mc) (hs : slots ≤ ms) :
    vx_W p l e R s m args below meth c H locs cells slots (vx_MQ below Qc XC args s mc ms free) (F0 m pc ls rest) q := by
  intro T hT X
  obtain ⟨st1, hrun, hend, hW, hsm⟩ := X.leaveThrown q (g := F0 m pc ls rest) rfl rfl rfl hout hlocks
  have hcell9 : (T.setFrames (.throwing q :: below)).heap[q]? = some ce := by
    show T.heap[q]? = some ce
    rw [hT]; exact hcell
  exact ⟨_, st1, .threw q, hrun, hend, Or.inr ⟨q, rfl, E, ce, locs, hx _ hT hW.alike, hcell9, hv, hcl, hW, hsm.mono hc hs, hf⟩⟩
theorem vx_frame {U : State} {k n : Nat} (h : s.sameButNew ({ U with vm := s.vm } : State) locs k n) : s.heap.size ≤ U.heap.size ∧ ∀ q : Nat, q < s.heap.size → (∀ z ∈ locs, z.base ≠ q) → U.heap[q]? = s.heap[q]? := by
  obtain ⟨-, h2, -, -, -, h6⟩ := h
  refine ⟨h2, fun q hq hz => ?_⟩
  obtain ⟨c9, e1, e2, e3, e4⟩ := h6 q _ (Array.getElem?_eq_getElem hq)
  have hs : c9.slots = (s.heap[q]).slots := Array.ext_getElem? fun i => e4 i fun hm => hz _ hm rfl
  have h9 : c9 = s.heap[q] := by
    rw [hs] at e2
    exact e2
  have e5 : U.heap[q]? = some c9 := e1
  rw [e5, h9, Array.getElem?_eq_getElem hq]
/-- the words of a throw but the four that speak of the heap -/
def vx_no (w : Cond) : Bool := decide (w ≠ .isRef (.static Bundle.tN "UNASSIGNED_STACK" Bundle.steD)) && decide (w ≠ .isRef (.static Bundle.tN "SUPPRESSED_SENTINEL" Bundle.listD)) && decide (w ≠ .laysStatic Bundle.tN "UNASSIGNED_STACK" Bundle.steD) && decide (w ≠ .laysStatic Bundle.tN "SUPPRESSED_SENTINEL" Bundle.listD)
def vx_at0 (own : String) (ic : Nat) (X : String) (names : List String) : List Cond := (Bundle.ownAtoms0 own ic X names).filter vx_no
def vx_atS (own : String) (ic : Nat) (X : String) (names : List String) : List Cond := (Bundle.ownAtoms own ic X names).filter vx_no
/-- a word that the tables alone decide, or a good one -/
def vx_ot (w : Cond) : Bool := w.onTables || goodWord w
theorem vx_ot_at {args a' : Array Value} {s U : State} {w : Cond} (hW : s.WarmedH U.vm) (hvm : s.vm = U.vm) (hg : vx_ot w = true) (h : w.before args s = true) : w.before a' U = true := by
  simp only [vx_ot, Bool.or_eq_true] at hg
  rcases hg with hg | hg
  · exact va_tabs hg hvm h
  · exact word_at hW (good_of_word hg) h
/-- a list's words: the good ones out of the method's own list, the others by premises of their own -/
theorem vx_hat {args : Array Value} {s : State} {L B : List Cond} (h1 : ∀ w ∈ L.filter goodWord, w.before args s = true) (h2 : ∀ w ∈ L.filter (fun w => !goodWord w), w ∈ B) (h3 : ∀ w ∈ B, w.before args s = true) : ∀ w ∈ L, w.before args s = true := by
  intro w hw
  by_cases g : goodWord w = true
  · exact h1 w (List.mem_filter.mpr ⟨hw, g⟩)
  · refine h3 w (h2 w (List.mem_filter.mpr ⟨hw, ?_⟩))
    show (!goodWord w) = true
    cases hgw : goodWord w
    · rfl
    · exact absurd hgw g
theorem vx_c {args : Array Value} {s : State} {w : Cond} {B : List Cond} (h : w.before args s = true) (t : ∀ w ∈ B, w.before args s = true) : ∀ w' ∈ w :: B, w'.before args s = true := fun w' h' => (List.mem_cons.mp h').elim (fun e => by rw [e]; exact h) (t w')
theorem vx_n {args : Array Value} {s : State} : ∀ w ∈ ([] : List Cond), w.before args s = true := fun _ h => nomatch h
theorem vx_own {args : Array Value} {s : State} {L : List Cond} (h1 : ∀ w ∈ L.filter vx_no, w.before args s = true)
    (hU : (Cond.isRef (.static Bundle.tN "UNASSIGNED_STACK" Bundle.steD)).before args s = true) (hN : (Cond.isRef (.static Bundle.tN "SUPPRESSED_SENTINEL" Bundle.listD)).before args s = true)
    (lU : (Cond.laysStatic Bundle.tN "UNASSIGNED_STACK" Bundle.steD).before args s = true) (lN : (Cond.laysStatic Bundle.tN "SUPPRESSED_SENTINEL" Bundle.listD).before args s = true) : ∀ w ∈ L, w.before args s = true := by
  intro w hw
  by_cases e1 : w = .isRef (.static Bundle.tN "UNASSIGNED_STACK" Bundle.steD)
  · rw [e1]; exact hU
  · by_cases e2 : w = .isRef (.static Bundle.tN "SUPPRESSED_SENTINEL" Bundle.listD)
    · rw [e2]; exact hN
    · by_cases e3 : w = .laysStatic Bundle.tN "UNASSIGNED_STACK" Bundle.steD
      · rw [e3]; exact lU
      · by_cases e4 : w = .laysStatic Bundle.tN "SUPPRESSED_SENTINEL" Bundle.listD
        · rw [e4]; exact lN
        · exact h1 w (List.mem_filter.mpr ⟨hw, by unfold vx_no; rw [decide_eq_true e1, decide_eq_true e2, decide_eq_true e3, decide_eq_true e4]; rfl⟩)
/-- where a static field lies, its class's statics cell in H -/
def vx_L (C n d : String) (A : Nat → Prop) (U : State) (H : Heap) : Prop := ∃ (c : ClassId) (k : Class) (i : Nat) (f : Field) (a : Nat) (cell : Cell), U.vm.findClass C = some c ∧ U.fieldFound? C n d = some (c, k, i, f) ∧ f.isStatic = true ∧ k.statics = some a ∧ H[a]? = some cell ∧ cell.vm.isStatics = true ∧ cell.cls = c ∧ f.slot < cell.slots.size ∧ k.staticTypes[f.slot]? = some f.type ∧ ¬ A a
theorem vx_L.moved {C n d : String} {A : Nat → Prop} {u U : State} {H : Heap} (hvm : u.vm.Alike U.vm) (h : vx_L C n d A u H) : vx_L C n d A U H := by
  obtain ⟨c, k, i, f, a, cell, h1, h2, h3, h4, h5, h6, h7, h8, h9, h10⟩ := h
  obtain ⟨k', hi', he⟩ := State.fieldFound?_setVm hvm h2
  exact ⟨c, k', i, f, a, cell, by rw [hvm.findClass]; exact h1, hi', h3, by rw [he]; exact h4, h5, h6, h7, h8, by rw [he]; exact h9, h10⟩
theorem vx_L.kept {C n d : String} {A : Nat → Prop} {U : State} {H H1 : Heap} (h : vx_L C n d A U H) (hq : ∀ a : Nat, a < H.size → ¬ A a → H1[a]? = H[a]?) : vx_L C n d A U H1 := by
  obtain ⟨c, k, i, f, a, cell, h1, h2, h3, h4, h5, h6, h7, h8, h9, h10⟩ := h
  exact ⟨c, k, i, f, a, cell, h1, h2, h3, h4, by rw [hq a (Array.getElem?_eq_some_iff.mp h5).1 h10]; exact h5, h6, h7, h8, h9, h10⟩
theorem vx_L.narrow {C n d : String} {A B : Nat → Prop} {U : State} {H : Heap} (h : vx_L C n d A U H) (hAB : ∀ q, B q → A q) : vx_L C n d B U H := by
  obtain ⟨c, k, i, f, a, cell, h1, h2, h3, h4, h5, h6, h7, h8, h9, h10⟩ := h
  exact ⟨c, k, i, f, a, cell, h1, h2, h3, h4, h5, h6, h7, h8, h9, fun z => h10 (hAB _ z)⟩
theorem vx_L.word {C n d : String} {A : Nat → Prop} {s : State} {args : Array Value} (h : vx_L C n d A s s.heap) : (Cond.laysStatic C n d).before args s = true := by
  obtain ⟨c, k, i, f, a, cell, h1, h2, h3, h4, h5, h6, h7, h8, h9, -⟩ := h
  show (Cond.laysStatic C n d).holds args s none s [] = true
  exact Cond.laysStatic_of h1 h2 h3 h4 h5 h6 h7 h8 h9
/-- .. and what it holds: null or some reference -/
def vx_Zq (C n d : String) (A : Nat → Prop) (U : State) (H : Heap) : Prop := va_Zq C n d A U H ∧ vx_L C n d A U H
theorem vx_Zq.moved {C n d : String} {A : Nat → Prop} {u U : State} {H : Heap} (hvm : u.vm.Alike U.vm) (h : vx_Zq C n d A u H) : vx_Zq C n d A U H := ⟨va_Zq.moved hvm h.1, vx_L.moved hvm h.2⟩
theorem vx_Zq.kept {C n d : String} {A : Nat → Prop} {U : State} {H H1 : Heap} (h : vx_Zq C n d A U H) (hq : ∀ a : Nat, a < H.size → ¬ A a → H1[a]? = H[a]?) : vx_Zq C n d A U H1 := ⟨va_Zq.kept h.1 hq, vx_L.kept h.2 hq⟩
theorem vx_Zq.narrow {C n d : String} {A B : Nat → Prop} {U : State} {H : Heap} (h : vx_Zq C n d A U H) (hAB : ∀ q, B q → A q) : vx_Zq C n d B U H := ⟨va_Zq.narrow h.1 hAB, vx_L.narrow h.2 hAB⟩
theorem vx_Zqof {args : Array Value} {s : State} {C n d : String} {A : Nat → Prop} (hl : (Cond.laysStatic C n d).before args s = true) (hini : (Cond.initialized C).before args s = true) (h : (Cond.isRef (.static C n d)).before args s = true) (hA : ∀ a : Nat, a < s.heap.size → ¬ A a) : vx_Zq C n d A s s.heap := by
  refine ⟨va_Zqof hl hini h hA, ?_⟩
  obtain ⟨c, k, i, f, a, cell, h1, h2, h3, h4, h5, h6, h7, h8, h9⟩ := Cond.laysStatic_spec hl
  exact ⟨c, k, i, f, a, cell, h1, h2, h3, h4, h5, h6, h7, h8, h9, hA a (Array.getElem?_eq_some_iff.mp h5).1⟩
theorem vx_isRef {C n d : String} {v : Value} {A : Nat → Prop} {s : State} {args : Array Value} (h : va_Z C n d v A s s.heap) (hv : v.isRef = true) : (Cond.isRef (.static C n d)).before args s = true := by
  obtain ⟨cf, kf, fi, f, a, cell, h1, h2, h3, h4, h5, h6, h7, -⟩ := h
  have he : (Term.static C n d).eval args s none [] s = some v := by
    simp [Term.eval, State.fieldNamed?, h1, h2, h4, h5, h6, h7]
  simp only [Cond.before, Cond.holds, Cond.value, he]
  cases v <;> simp_all [Value.isRef]
theorem vx_isRefq {C n d : String} {A : Nat → Prop} {s : State} {args : Array Value} (h : va_Zq C n d A s s.heap) : (Cond.isRef (.static C n d)).before args s = true := by
  rcases h with h | ⟨t, h⟩
  · exact vx_isRef h rfl
  · exact vx_isRef h rfl
/-- the same frame, seen from here: as if the method were called anew in this heap -/
theorem vx_rebase {T : State} (X : Stand p l e R s m args below meth c T locs cells slots) {R' : Room} (hf : R'.frames ≤ R.frames) (hl : R'.locals ≤ R.locals) (hc : cells + R'.cells ≤ R.cells) (hs : slots + R'.slots ≤ R.slots) :
    Stand p l e R' ((T.setVm s.vm).setFrames (.invoking m args :: below)) m args below meth c T [] 0 0 := by
  have htop : (T.setVm s.vm).topJava?.isSome := X.here.top
  have hF : ((T.setVm s.vm).setFrames (.invoking m args :: below)).frames = .invoking m args :: below := State.frames_setFrames _ (State.cur_lt_of_top htop)
  obtain ⟨g₀, hg0⟩ := Option.isSome_iff_exists.mp htop
  obtain ⟨r, hr⟩ := State.topJava?_eq_some.mp hg0
  have hl9 : e.platform.stackLimits (T.setVm s.vm).me = e.platform.stackLimits s.me := X.limits
  have hb9 : (T.setVm s.vm).me.stackBytes = s.me.stackBytes := X.bytes
  refine ⟨X.admits, X.cas, X.clock, hF, ?_, X.hears, X.method, X.code, X.here, X.tail, X.warmed, ?_, ?_, ?_⟩
  · have h := X.room
    have hU : ((T.setVm s.vm).setFrames (.invoking m args :: below)).localsInUse = s.localsInUse := by
      rw [State.localsInUse_invoking hF (meth := meth) (c := c) X.method X.code, State.localsInUse_invoking X.frames X.method X.code]
    simp only [State.hasRoom, Bool.and_eq_true, decide_eq_true_eq] at h ⊢
    obtain ⟨⟨⟨⟨h1, h2, h3, h4, h5, h6⟩, h7⟩, h8⟩, h9⟩ := h
    rw [X.frames, List.length_cons] at h2 h3
    have q1 := X.heapSize
    have q2 := X.used
    simp only [hF, hU, List.length_cons, State.stackLimits_setFrames, State.stackBytes_setFrames, hl9, hb9]
    refine ⟨⟨⟨⟨by omega, by omega, by omega, by omega, by omega, h6⟩, ?_⟩, ?_⟩, X.book⟩
    · show T.heap.size + R'.cells ≤ e.platform.maxCells
      omega
    · show T.slotsUsed + R'.slots ≤ e.platform.maxSlots
      omega
  · rw [State.stackLimits_setFrames]; rfl
  · rw [State.stackBytes_setFrames]; rfl
  · refine ⟨?_, Nat.le_refl _, Nat.le_refl _, ?_, ?_, fun a c9 h9 => ⟨c9, h9, rfl, rfl, fun _ _ => rfl⟩⟩
    · obtain ⟨t, ht, -⟩ := State.frames_cons hr
      show T.setVm s.vm = { ((T.setVm s.vm).setFrames (.invoking m args :: below)).setFrames (T.setVm s.vm).frames with heap := T.heap, slotsUsed := T.slotsUsed }
      rw [State.setFrames_setFrames, State.setFrames_self ht]
      rfl
    · show T.slotsUsed = T.slotsUsed + ((T.heap.toList.drop T.heap.size).map (·.slots.size)).sum
      rw [List.drop_eq_nil_of_le (Nat.le_of_eq Array.length_toList)]
      rfl
    · show ((T.heap.toList.drop T.heap.size).map (·.slots.size)).sum ≤ 0
      rw [List.drop_eq_nil_of_le (Nat.le_of_eq Array.length_toList)]
      exact Nat.le_refl _
/-- 'throw new E()': new; dup; invokespecial; athrow -/
theorem vx_throw0 {cc : ByteArray} {pc : Nat} (hexec : p.tables.exec = Jvm.exec) (hb : c.code = cc) (hl : l.stackTraces = false) {own cls : String} {names : List String} {ik ic mc ms : Nat} {A : Nat → Prop}
    (hown : s.vm.findClass own = some m.cls) (hcls : Bundle.fit cls = true) (hnames : ∀ n ∈ names, Bundle.fit n = true)
    (hk : (Cond.classLink own ik cls).before args s = true) (hini : (Cond.initialized cls).before args s = true) (hat : ∀ w ∈ vx_at0 own ic cls names, w.before args s = true)
    (hgood : ∀ w ∈ Cond.classLink own ik cls :: Cond.initialized cls :: vx_at0 own ic cls names, vx_ot w = true)
    (hU : vx_Zq Bundle.tN "UNASSIGNED_STACK" Bundle.steD A s s.heap) (hN : vx_Zq Bundle.tN "SUPPRESSED_SENTINEL" Bundle.listD A s s.heap) (hS : va_S A s.heap H locs) (hsize : ls.size = c.maxLocals)
    (d0 : decode cc pc = .ok (.new ik, 3)) (d3 : decode cc (pc + 3) = .ok (.dup, 1)) (d4 : decode cc (pc + 4) = .ok (.invokespecial ic, 3)) (d7 : decode cc (pc + 7) = .ok (.athrow, 1))
    (hout : ∀ x ∈ c.exceptionTable.toList, covers x (pc + 7) = false)
    (hRframes : names.length + 3 < R.frames) (hRlocals : (rest.map fun v => v.category).sum + (13 * (names.length + 1) + 42) ≤ R.locals) (hRcells : cells + 1 ≤ R.cells) (hRslots : slots + 6 ≤ R.slots) (hlocks : meth.locks = false)
    (hx : ∀ t : State, s.vm.Alike t.vm → H.size ≤ t.heap.size → (∀ q : Nat, q < H.size → t.heap[q]? = H[q]?) → XC cls s t)
    (hf : ∀ z ∈ locs, free z.base) (hc : cells + 1 ≤ mc) (hs : slots + 6 ≤ ms) :
    W p l e R s m args below meth c H locs cells slots (vx_MQ below Qc XC args s mc ms free) (F0 m pc ls rest) := by
  intro T hT X
  have htr : e.platform.stackTraces = false := (show e.platform.stackTraces = l.stackTraces by rw [X.admits.platform]).trans hl
  have Y := vx_rebase X (R' := { frames := R.frames, locals := R.locals, cells := 1, slots := 6 }) (Nat.le_refl _) (Nat.le_refl _) hRcells hRslots
  obtain ⟨s', hA⟩ : ∃ z, z = (T.setVm s.vm).setFrames (.invoking m args :: below) := ⟨_, rfl⟩
  rw [← hA] at Y
  have hvm : s'.vm = s.vm := by rw [hA]; rfl
  have hhp : s'.heap = H := by rw [hA]; exact hT
  have hW0 : s.WarmedH s'.vm := by rw [hvm]; exact State.WarmedH.refl s
  have hat' : ∀ w ∈ vx_at0 own ic cls names, w.before args s' = true := fun w hw => vx_ot_at hW0 hvm.symm (hgood w (List.mem_cons_of_mem _ (List.mem_cons_of_mem _ hw))) (hat w hw)
  have hk' : (Cond.classLink own ik cls).before args s' = true := vx_ot_at hW0 hvm.symm (hgood _ List.mem_cons_self) hk
  have hini' : (Cond.initialized cls).before args s' = true := vx_ot_at hW0 hvm.symm (hgood _ (List.mem_cons_of_mem _ List.mem_cons_self)) hini
  have hU' : vx_Zq Bundle.tN "UNASSIGNED_STACK" Bundle.steD A s' s'.heap := by rw [hhp]; exact vx_Zq.moved hW0.alike (hU.kept hS.2.1)
  have hN' : vx_Zq Bundle.tN "SUPPRESSED_SENTINEL" Bundle.listD A s' s'.heap := by rw [hhp]; exact vx_Zq.moved hW0.alike (hN.kept hS.2.1)
  have h : ∀ w ∈ Bundle.ownAtoms0 own ic cls names, w.before args s' = true := vx_own hat' (vx_isRefq hU'.1) (vx_isRefq hN'.1) hU'.2.word hN'.2.word
  have hown' : s'.vm.findClass own = some m.cls := by rw [hvm]; exact hown
  have hins : (Cond.instantiable cls 6).before args s' = true := h _ (by simp [Bundle.ownAtoms0])
  obtain ⟨vm₁, cX, kX, hfX, hkX, -, -, X₁, st1⟩ := Y.newCold hexec (own := own) (C := cls) (index := ik) (n := 6) hown' hk' hins hini'
    (g := F0 m pc ls rest) rfl (by rw [hb]; exact d0) (Nat.le_refl _) (Nat.le_refl _)
  generalize hT1 : (T.setVm vm₁).pushCell { cls := cX, slots := kX.instanceTypes.map defaultValue, vm := .none } = T1 at X₁ st1
  have hcat : (Value.ref T.heap.size).category = 1 := rfl
  have hcellA : T1.heap[T.heap.size]? = some (freshCell cX kX) := by rw [← hT1]; exact State.heap_pushCell_size _ _
  have d3' : decode c.code (pc + 3) = .ok (.dup, 1) := by rw [hb]; exact d3
  obtain ⟨U, hsteps, hrun, hend, hW, hsame, ce, hce, hO⟩ := X₁.ctorThrow0 hexec htr (own := own) (cls := cls) (names := names) (ic := ic) hown' hcls hnames h (fun x hx => nomatch hx) hfX hkX hcellA (by rw [hhp, hT]; exact Nat.le_refl _)
    (g := { method := m, pc := pc + 4, locals := ls, stack := .ref T.heap.size :: .ref T.heap.size :: rest, locked := none }) rfl hsize rfl rfl (rest := rest) rfl
    (by rw [hb]; exact d4) (by rw [hb]; exact d7) hout hRframes (by simp only [List.map_cons, List.sum_cons, hcat]; omega) hlocks
  obtain ⟨f1, f2⟩ := vx_frame hsame
  rw [hhp] at f1 f2
  have hWs : s.WarmedH U.vm := State.WarmedH.trans hW0 hW
  have hcl : s.vm.findClass cls = some ce.cls := by
    have h9 := hO.cls
    rw [hvm] at h9
    exact h9
  have hall : s.sameButNew ({ U with vm := s.vm } : State) locs mc ms := by
    subst hA
    obtain ⟨e1, e2⟩ := hsame
    rw [State.setFrames_setFrames] at e1
    have h2 : (T.setVm s.vm).sameButNew ({ U with vm := s.vm } : State) [] (0 + 1) (0 + 6) := ⟨e1, e2⟩
    have h3 := X.same.trans h2
    rw [List.append_nil] at h3
    exact h3.mono hc hs
  refine ⟨U, ?_, .threw T.heap.size, hrun, hend, Or.inr ⟨T.heap.size, rfl, cls, ce, locs, hx U hWs.alike f1 (fun q hq => f2 q hq (fun z hz => nomatch hz)), hce, hO.vm, hcl, hWs, hall, hf⟩⟩
  refine st1 _ ?_
  show Steps p.tables e below (T1.setTop { method := m, pc := pc + 3, locals := ls, stack := .ref T.heap.size :: rest, locked := none }) _
  jvm_step X₁.here [X₁.here.top, hexec, d3', Value.category]
  exact hsteps
/-- 'throw new E("text")': new; dup; ldc; invokespecial; athrow -/
theorem vx_throwS {cc : ByteArray} {pc : Nat} (hexec : p.tables.exec = Jvm.exec) (hb : c.code = cc) (hl : l.stackTraces = false) {own cls text : String} {names : List String} {ik is ic mc ms sa : Nat} {A : Nat → Prop}
    (hown : s.vm.findClass own = some m.cls) (hcls : Bundle.fit cls = true) (hnames : ∀ n ∈ names, Bundle.fit n = true)
    (hk : (Cond.classLink own ik cls).before args s = true) (hini : (Cond.initialized cls).before args s = true) (hstr : vk_R own is text sa s) (hat : ∀ w ∈ vx_atS own ic cls names, w.before args s = true)
    (hgood : ∀ w ∈ Cond.classLink own ik cls :: Cond.initialized cls :: vx_atS own ic cls names, vx_ot w = true)
    (hU : vx_Zq Bundle.tN "UNASSIGNED_STACK" Bundle.steD A s s.heap) (hN : vx_Zq Bundle.tN "SUPPRESSED_SENTINEL" Bundle.listD A s s.heap) (hS : va_S A s.heap H locs) (hsize : ls.size = c.maxLocals)
    (d0 : decode cc pc = .ok (.new ik, 3)) (d3 : decode cc (pc + 3) = .ok (.dup, 1)) (d4 : decode cc (pc + 4) = .ok (.ldc is, 2)) (d6 : decode cc (pc + 6) = .ok (.invokespecial ic, 3)) (d9 : decode cc (pc + 9) = .ok (.athrow, 1))
    (hout : ∀ x ∈ c.exceptionTable.toList, covers x (pc + 9) = false)
    (hRframes : names.length + 3 < R.frames) (hRlocals : (rest.map fun v => v.category).sum + (13 * (names.length + 1) + 43) ≤ R.locals) (hRcells : cells + 1 ≤ R.cells) (hRslots : slots + 6 ≤ R.slots) (hlocks : meth.locks = false)
    (hx : ∀ t : State, s.vm.Alike t.vm → H.size ≤ t.heap.size → (∀ q : Nat, q < H.size → t.heap[q]? = H[q]?) → XC cls s t)
    (hf : ∀ z ∈ locs, free z.base) (hc : cells + 1 ≤ mc) (hs : slots + 6 ≤ ms) :
    W p l e R s m args below meth c H locs cells slots (vx_MQ below Qc XC args s mc ms free) (F0 m pc ls rest) := by
  intro T hT X
  have htr : e.platform.stackTraces = false := (show e.platform.stackTraces = l.stackTraces by rw [X.admits.platform]).trans hl
  have Y := vx_rebase X (R' := { frames := R.frames, locals := R.locals, cells := 1, slots := 6 }) (Nat.le_refl _) (Nat.le_refl _) hRcells hRslots
  obtain ⟨s', hA⟩ : ∃ z, z = (T.setVm s.vm).setFrames (.invoking m args :: below) := ⟨_, rfl⟩
  rw [← hA] at Y
  have hvm : s'.vm = s.vm := by rw [hA]; rfl
  have hhp : s'.heap = H := by rw [hA]; exact hT
  have hW0 : s.WarmedH s'.vm := by rw [hvm]; exact State.WarmedH.refl s
  have hat' : ∀ w ∈ vx_atS own ic cls names, w.before args s' = true := fun w hw => vx_ot_at hW0 hvm.symm (hgood w (List.mem_cons_of_mem _ (List.mem_cons_of_mem _ hw))) (hat w hw)
  have hk' : (Cond.classLink own ik cls).before args s' = true := vx_ot_at hW0 hvm.symm (hgood _ List.mem_cons_self) hk
  have hini' : (Cond.initialized cls).before args s' = true := vx_ot_at hW0 hvm.symm (hgood _ (List.mem_cons_of_mem _ List.mem_cons_self)) hini
  have hU' : vx_Zq Bundle.tN "UNASSIGNED_STACK" Bundle.steD A s' s'.heap := by rw [hhp]; exact vx_Zq.moved hW0.alike (hU.kept hS.2.1)
  have hN' : vx_Zq Bundle.tN "SUPPRESSED_SENTINEL" Bundle.listD A s' s'.heap := by rw [hhp]; exact vx_Zq.moved hW0.alike (hN.kept hS.2.1)
  have h : ∀ w ∈ Bundle.ownAtoms own ic cls names, w.before args s' = true := vx_own hat' (vx_isRefq hU'.1) (vx_isRefq hN'.1) hU'.2.word hN'.2.word
  have hown' : s'.vm.findClass own = some m.cls := by rw [hvm]; exact hown
  have hins : (Cond.instantiable cls 6).before args s' = true := h _ (by simp [Bundle.ownAtoms])
  obtain ⟨vm₁, cX, kX, hfX, hkX, -, -, X₁, st1⟩ := Y.newCold hexec (own := own) (C := cls) (index := ik) (n := 6) hown' hk' hins hini'
    (g := F0 m pc ls rest) rfl (by rw [hb]; exact d0) (Nat.le_refl _) (Nat.le_refl _)
  generalize hT1 : (T.setVm vm₁).pushCell { cls := cX, slots := kX.instanceTypes.map defaultValue, vm := .none } = T1 at X₁ st1
  have hcat : (Value.ref T.heap.size).category = 1 := rfl
  have hcellA : T1.heap[T.heap.size]? = some (freshCell cX kX) := by rw [← hT1]; exact State.heap_pushCell_size _ _
  have d3' : decode c.code (pc + 3) = .ok (.dup, 1) := by rw [hb]; exact d3
  have d4' : decode c.code (pc + 4) = .ok (.ldc is, 2) := by rw [hb]; exact d4
  have hstr' : vk_R own is text sa s' := vk_R.warm hW0 hstr
  obtain ⟨U, hsteps, hrun, hend, hW, hsame, ce, hce, hO⟩ := X₁.ctorThrowS hexec htr (own := own) (cls := cls) (names := names) (ic := ic) hown' hcls hnames h (fun x hx => nomatch hx) hfX hkX hcellA (by rw [hhp, hT]; exact Nat.le_refl _) (msg := .ref sa) rfl
    (g := { method := m, pc := pc + 6, locals := ls, stack := .ref sa :: .ref T.heap.size :: .ref T.heap.size :: rest, locked := none }) rfl hsize rfl rfl (rest := rest) rfl
    (by rw [hb]; exact d6) (by rw [hb]; exact d9) hout hRframes (by simp only [List.map_cons, List.sum_cons, hcat]; omega) hlocks
  obtain ⟨f1, f2⟩ := vx_frame hsame
  rw [hhp] at f1 f2
  have hWs : s.WarmedH U.vm := State.WarmedH.trans hW0 hW
  have hcl : s.vm.findClass cls = some ce.cls := by
    have h9 := hO.cls
    rw [hvm] at h9
    exact h9
  have hall : s.sameButNew ({ U with vm := s.vm } : State) locs mc ms := by
    subst hA
    obtain ⟨e1, e2⟩ := hsame
    rw [State.setFrames_setFrames] at e1
    have h2 : (T.setVm s.vm).sameButNew ({ U with vm := s.vm } : State) [] (0 + 1) (0 + 6) := ⟨e1, e2⟩
    have h3 := X.same.trans h2
    rw [List.append_nil] at h3
    exact h3.mono hc hs
  refine ⟨U, ?_, .threw T.heap.size, hrun, hend, Or.inr ⟨T.heap.size, rfl, cls, ce, locs, hx U hWs.alike f1 (fun q hq => f2 q hq (fun z hz => nomatch hz)), hce, hO.vm, hcl, hWs, hall, hf⟩⟩
  refine st1 _ ?_
  show Steps p.tables e below (T1.setTop { method := m, pc := pc + 3, locals := ls, stack := .ref T.heap.size :: rest, locked := none }) _
  jvm_step X₁.here [X₁.here.top, hexec, d3', Value.category]
  exact X₁.ldcString hexec (own := own) (text := text) (index := is) (a := sa) hown' hstr'.1 hstr'.2
    (g := { method := m, pc := pc + 4, locals := ls, stack := .ref T.heap.size :: .ref T.heap.size :: rest, locked := none }) rfl d4' _ hsteps
/-- 'throw new E("text")', the text by a wide index -/
theorem vx_throwSW {cc : ByteArray} {pc : Nat} (hexec : p.tables.exec = Jvm.exec) (hb : c.code = cc) (hl : l.stackTraces = false) {own cls text : String} {names : List String} {ik is ic mc ms sa : Nat} {A : Nat → Prop}
    (hown : s.vm.findClass own = some m.cls) (hcls : Bundle.fit cls = true) (hnames : ∀ n ∈ names, Bundle.fit n = true)
    (hk : (Cond.classLink own ik cls).before args s = true) (hini : (Cond.initialized cls).before args s = true) (hstr : vk_R own is text sa s) (hat : ∀ w ∈ vx_atS own ic cls names, w.before args s = true)
    (hgood : ∀ w ∈ Cond.classLink own ik cls :: Cond.initialized cls :: vx_atS own ic cls names, vx_ot w = true)
    (hU : vx_Zq Bundle.tN "UNASSIGNED_STACK" Bundle.steD A s s.heap) (hN : vx_Zq Bundle.tN "SUPPRESSED_SENTINEL" Bundle.listD A s s.heap) (hS : va_S A s.heap H locs) (hsize : ls.size = c.maxLocals)
    (d0 : decode cc pc = .ok (.new ik, 3)) (d3 : decode cc (pc + 3) = .ok (.dup, 1)) (d4 : decode cc (pc + 4) = .ok (.ldc_w is, 3)) (d7 : decode cc (pc + 7) = .ok (.invokespecial ic, 3)) (d10 : decode cc (pc + 10) = .ok (.athrow, 1))
    (hout : ∀ x ∈ c.exceptionTable.toList, covers x (pc + 10) = false)
    (hRframes : names.length + 3 < R.frames) (hRlocals : (rest.map fun v => v.category).sum + (13 * (names.length + 1) + 43) ≤ R.locals) (hRcells : cells + 1 ≤ R.cells) (hRslots : slots + 6 ≤ R.slots) (hlocks : meth.locks = false)
    (hx : ∀ t : State, s.vm.Alike t.vm → H.size ≤ t.heap.size → (∀ q : Nat, q < H.size → t.heap[q]? = H[q]?) → XC cls s t)
    (hf : ∀ z ∈ locs, free z.base) (hc : cells + 1 ≤ mc) (hs : slots + 6 ≤ ms) :
    W p l e R s m args below meth c H locs cells slots (vx_MQ below Qc XC args s mc ms free) (F0 m pc ls rest) := by
  intro T hT X
  have htr : e.platform.stackTraces = false := (show e.platform.stackTraces = l.stackTraces by rw [X.admits.platform]).trans hl
  have Y := vx_rebase X (R' := { frames := R.frames, locals := R.locals, cells := 1, slots := 6 }) (Nat.le_refl _) (Nat.le_refl _) hRcells hRslots
  obtain ⟨s', hA⟩ : ∃ z, z = (T.setVm s.vm).setFrames (.invoking m args :: below) := ⟨_, rfl⟩
  rw [← hA] at Y
  have hvm : s'.vm = s.vm := by rw [hA]; rfl
  have hhp : s'.heap = H := by rw [hA]; exact hT
  have hW0 : s.WarmedH s'.vm := by rw [hvm]; exact State.WarmedH.refl s
  have hat' : ∀ w ∈ vx_atS own ic cls names, w.before args s' = true := fun w hw => vx_ot_at hW0 hvm.symm (hgood w (List.mem_cons_of_mem _ (List.mem_cons_of_mem _ hw))) (hat w hw)
  have hk' : (Cond.classLink own ik cls).before args s' = true := vx_ot_at hW0 hvm.symm (hgood _ List.mem_cons_self) hk
  have hini' : (Cond.initialized cls).before args s' = true := vx_ot_at hW0 hvm.symm (hgood _ (List.mem_cons_of_mem _ List.mem_cons_self)) hini
  have hU' : vx_Zq Bundle.tN "UNASSIGNED_STACK" Bundle.steD A s' s'.heap := by rw [hhp]; exact vx_Zq.moved hW0.alike (hU.kept hS.2.1)
  have hN' : vx_Zq Bundle.tN "SUPPRESSED_SENTINEL" Bundle.listD A s' s'.heap := by rw [hhp]; exact vx_Zq.moved hW0.alike (hN.kept hS.2.1)
  have h : ∀ w ∈ Bundle.ownAtoms own ic cls names, w.before args s' = true := vx_own hat' (vx_isRefq hU'.1) (vx_isRefq hN'.1) hU'.2.word hN'.2.word
  have hown' : s'.vm.findClass own = some m.cls := by rw [hvm]; exact hown
  have hins : (Cond.instantiable cls 6).before args s' = true := h _ (by simp [Bundle.ownAtoms])
  obtain ⟨vm₁, cX, kX, hfX, hkX, -, -, X₁, st1⟩ := Y.newCold hexec (own := own) (C := cls) (index := ik) (n := 6) hown' hk' hins hini'
    (g := F0 m pc ls rest) rfl (by rw [hb]; exact d0) (Nat.le_refl _) (Nat.le_refl _)
  generalize hT1 : (T.setVm vm₁).pushCell { cls := cX, slots := kX.instanceTypes.map defaultValue, vm := .none } = T1 at X₁ st1
  have hcat : (Value.ref T.heap.size).category = 1 := rfl
  have hcellA : T1.heap[T.heap.size]? = some (freshCell cX kX) := by rw [← hT1]; exact State.heap_pushCell_size _ _
  have d3' : decode c.code (pc + 3) = .ok (.dup, 1) := by rw [hb]; exact d3
  have d4' : decode c.code (pc + 4) = .ok (.ldc_w is, 3) := by rw [hb]; exact d4
  have hstr' : vk_R own is text sa s' := vk_R.warm hW0 hstr
  obtain ⟨U, hsteps, hrun, hend, hW, hsame, ce, hce, hO⟩ := X₁.ctorThrowS hexec htr (own := own) (cls := cls) (names := names) (ic := ic) hown' hcls hnames h (fun x hx => nomatch hx) hfX hkX hcellA (by rw [hhp, hT]; exact Nat.le_refl _) (msg := .ref sa) rfl
    (g := { method := m, pc := pc + 7, locals := ls, stack := .ref sa :: .ref T.heap.size :: .ref T.heap.size :: rest, locked := none }) rfl hsize rfl rfl (rest := rest) rfl
    (by rw [hb]; exact d7) (by rw [hb]; exact d10) hout hRframes (by simp only [List.map_cons, List.sum_cons, hcat]; omega) hlocks
  obtain ⟨f1, f2⟩ := vx_frame hsame
  rw [hhp] at f1 f2
  have hWs : s.WarmedH U.vm := State.WarmedH.trans hW0 hW
  have hcl : s.vm.findClass cls = some ce.cls := by
    have h9 := hO.cls
    rw [hvm] at h9
    exact h9
  have hall : s.sameButNew ({ U with vm := s.vm } : State) locs mc ms := by
    subst hA
    obtain ⟨e1, e2⟩ := hsame
    rw [State.setFrames_setFrames] at e1
    have h2 : (T.setVm s.vm).sameButNew ({ U with vm := s.vm } : State) [] (0 + 1) (0 + 6) := ⟨e1, e2⟩
    have h3 := X.same.trans h2
    rw [List.append_nil] at h3
    exact h3.mono hc hs
  refine ⟨U, ?_, .threw T.heap.size, hrun, hend, Or.inr ⟨T.heap.size, rfl, cls, ce, locs, hx U hWs.alike f1 (fun q hq => f2 q hq (fun z hz => nomatch hz)), hce, hO.vm, hcl, hWs, hall, hf⟩⟩
  refine st1 _ ?_
  show Steps p.tables e below (T1.setTop { method := m, pc := pc + 3, locals := ls, stack := .ref T.heap.size :: rest, locked := none }) _
  jvm_step X₁.here [X₁.here.top, hexec, d3', Value.category]
  exact X₁.ldcStringW hexec (own := own) (text := text) (index := is) (a := sa) hown' hstr'.1 hstr'.2
    (g := { method := m, pc := pc + 4, locals := ls, stack := .ref T.heap.size :: .ref T.heap.size :: rest, locked := none }) rfl d4' _ hsteps
end Ends
section Bodies
variable {l : Launch}
theorem vx_ofW {y : MethodName} {ws ws' : List Cond} {rm : Room} {Pc : Array Value → State → Prop} {Qc : Array Value → State → Outcome → State → Prop} {XC : String → State → State → Prop} {mc ms : Nat} {free : Addr → Prop} {cc : ByteArray} {maxL : Nat} {ret : Option FieldType}
    (hy : plainName y.cls = true) (hw : ws = Cond.code y cc maxL ret :: ws')
    (body : ∀ p e s m args below meth c s₁, BodyLoose p l y (headSpec ws rm) cc maxL ret e s m args below meth c s₁ → c.maxLocals = maxL → (∀ x ∈ c.exceptionTable.toList, False) → Pc args s →
      W p l e (headSpec ws rm).room s m args below meth c s.heap [] 0 0 (vx_MQ below Qc XC args s mc ms free) (entryFrame m args maxL)) : vx_Met l y ws rm Pc Qc XC mc ms free := by
  refine MetFree.of_bodyS (code := cc) (maxLocals := maxL) (ret := ret) hy ?_ ?_
  · intro args s m h hn
    obtain ⟨meth, c, h1, h2, h3, h4, h5, h6, -, -⟩ := Cond.code_spec hn (atoms_spec (ws := ws) h _ (by rw [hw]; exact List.mem_cons_self))
    exact ⟨meth, c, h1, h2, h3, h4, h5, h6⟩
  · intro p e s m args below meth c s₁ B hml hP _
    have hh0 : s₁.heap = s.heap := by rw [B.state]; rfl
    have ht : ∀ x ∈ c.exceptionTable.toList, False := by
      obtain ⟨meth9, c9, h1, h2, -, -, -, -, h7, -⟩ := Cond.code_spec B.named (atoms_spec (ws := ws) B.pre _ (by rw [hw]; exact List.mem_cons_self))
      cases Option.some.inj (h1.symm.trans B.method)
      cases Option.some.inj (h2.symm.trans (Stand.of_body B).code)
      intro x hx
      rw [Array.isEmpty_iff.mp h7] at hx
      cases hx
    obtain ⟨t, a1, o, b1, b2, b3⟩ := body p e s m args below meth c s₁ B hml ht hP s₁ hh0 (Stand.of_body B)
    exact ⟨t, o, a1, b1, b2, b3⟩
/-- the table of a body with handlers -/
theorem vx_table {p : Program} {x y : MethodName} {S : Spec} {cc bytes : ByteArray} {maxL maxL' : Nat} {ret ret' : Option FieldType} {e : Env} {s s₁ : State} {m : MethodId} {args : Array Value} {below : List Frame} {meth : Method} {c : Code} {hh : List (Nat × Nat × Nat × Nat)}
    (B : BodyLoose p l y S cc maxL ret e s m args below meth c s₁) (h : (Cond.codeWith y bytes maxL' ret' hh).before args s = true) : c.exceptionTable.toList = tableOf hh := by
  obtain ⟨m9, meth9, c9, hn9, h1, h2, -, -, h6, -⟩ := Cond.codeWith_spec h
  cases Option.some.inj (hn9.symm.trans B.named)
  cases Option.some.inj (h1.symm.trans B.method)
  cases Option.some.inj (h2.symm.trans (Stand.of_body B).code)
  rw [← h6, table_eq]
end Bodies
end VXA
/-! ===== END ===== -/
/-! ===== BEGIN a static call of a method with an exception table ===== -/
section VXS
variable {p : Program} {l : Launch} {e : Env} {R : Room} {s : State} {m : MethodId} {args : Array Value} {below : List Frame} {meth : Method} {c : Code} {T : State} {H : Heap} {locs : List Loc} {cells slots : Nat}
abbrev vx_CSW (R : Room) (s : State) (args : Array Value) (own : String) (index : Nat) (y : MethodName) (bytes : ByteArray) (maxL : Nat) (ret : Option FieldType) (hh : List (Nat × Nat × Nat × Nat)) (ws : List Cond) (rm : Room) (mc ms n : Nat) : Prop :=
  (rm.cells = mc ∧ rm.slots = ms ∧ rm.frames + 1 ≤ R.frames ∧ 8 + (maxL + 11) + rm.locals ≤ R.locals ∧ (∀ w ∈ ws, ∀ (a' : Array Value) (U : State), s.WarmedH U.vm → w.before a' U = true) ∧ Cond.codeWith y bytes maxL ret hh ∈ ws) ∧
  (Cond.codeWith y bytes maxL ret hh).before args s = true ∧ (Cond.initialized y.cls).before args s = true ∧ (y.cls ≠ "java/lang/invoke/MethodHandle" ∧ y.cls ≠ "java/lang/invoke/VarHandle") ∧
  (∀ sig, parseMethodDescriptor y.desc = some sig → n = sig.parameters.length) ∧ (Cond.methodLink own index y).before args s = true ∧ (Cond.static y).before args s = true
theorem vx_cwSW {own : String} {index maxL mc ms : Nat} {y : MethodName} {bytes : ByteArray} {ret : Option FieldType} {hh : List (Nat × Nat × Nat × Nat)} {Ts ws ws' : List Cond} {rm : Room} (n : Nat) (ht : ∀ w ∈ Ts, w.before args s = true) (hT : GoodIn Ts (va_wsS own index y ws)) (hw : ws = Cond.codeWith y bytes maxL ret hh :: ws') (hrc : rm.cells = mc) (hrs : rm.slots = ms)
    (hd : y.cls ≠ "java/lang/invoke/MethodHandle" ∧ y.cls ≠ "java/lang/invoke/VarHandle" ∧ (parseMethodDescriptor y.desc).map (fun d => d.parameters.length) = some n) (hR : rm.frames + 1 ≤ R.frames ∧ 8 + (maxL + 11) + rm.locals ≤ R.locals) :
    vx_CSW R s args own index y bytes maxL ret hh ws rm mc ms n := by
  have ok : ∀ w ∈ va_wsS own index y ws, w.before args s = true := fun w h => ht w (hT w h).1
  have hG : GoodIn Ts ws := fun w h => hT w (by unfold va_wsS; exact List.mem_append_right _ h)
  have hc : Cond.codeWith y bytes maxL ret hh ∈ ws := by rw [hw]; exact List.mem_cons_self
  refine ⟨⟨hrc, hrs, hR.1, hR.2, pay_in ht hG, hc⟩, ht _ (hG _ hc).1, ok _ (by simp [va_wsS]), ⟨hd.1, hd.2.1⟩, fun sig h => ?_, ok _ (by simp [va_wsS]), ok _ (by simp [va_wsS])⟩
  have h2 := hd.2.2
  rw [h] at h2
  exact (Option.some.inj h2).symm
theorem vx_callSW (X : Stand p l e R s m args below meth c T locs cells slots) (hexec : p.tables.exec = Jvm.exec) {own : String} {index : Nat} {y : MethodName} {bytes : ByteArray} {maxL : Nat} {ret : Option FieldType} {hh : List (Nat × Nat × Nat × Nat)}
    (hown : s.vm.findClass own = some m.cls) (hlink : (Cond.methodLink own index y).before args s = true) (hstat : (Cond.static y).before args s = true) (hinit : (Cond.initialized y.cls).before args s = true)
    (hcode : (Cond.codeWith y bytes maxL ret hh).before args s = true) (hy : y.cls ≠ "java/lang/invoke/MethodHandle" ∧ y.cls ≠ "java/lang/invoke/VarHandle")
    {W9 : Nat} {Pre : Pt → Array Value → Prop} {Post : Pt → Array Value → Option Value → Pt → Prop} (hK : Back l R p e below s args y 3 W9 Pre Post)
    {g : JFrame} (hg : g.method = m) (hsize : g.locals.size = c.maxLocals) {argsL rest : List Value} (hlen : ∀ sig, parseMethodDescriptor y.desc = some sig → argsL.length = sig.parameters.length)
    (hstack : g.stack = argsL.reverse ++ rest) (hW : 2 * g.monitorRoom + (rest.map fun v => v.category).sum ≤ W9) (hdg : decode c.code g.pc = .ok (.invokestatic index, 3))
    (hpre : ∀ vm₁, s.WarmedH vm₁ → Pre ⟨T.setVm vm₁, locs, cells, slots⟩ argsL.toArray) :
    ∃ (v : Option Value) (vm₁ : Vm) (B : Pt), s.WarmedH vm₁ ∧ Stand p l e R s m args below meth c B.U B.locs B.cells B.slots ∧ Post ⟨T.setVm vm₁, locs, cells, slots⟩ argsL.toArray v B ∧
      ∀ target, Steps p.tables e below (B.U.setTop { g with pc := g.pc + 3, stack := v.toList ++ rest }) target → Steps p.tables e below (T.setTop g) target := by
  obtain ⟨mk, methM, cM, hnamed, hmethM, -, -, -, -, -, -, hsigM⟩ := Cond.codeWith_spec hcode
  have hstatic : methM.isStatic = true := Cond.static_spec hnamed hmethM hstat
  obtain ⟨kP, hkP, -⟩ := className_of_methodNamed hnamed
  have hinitP : kP.init = .initialized := Cond.initialized_spec (findClass_of_methodNamed hnamed) hkP hinit
  obtain ⟨vm₁, X₁, hstep₁⟩ := X.invokestatic hexec hown hlink hnamed hmethM hstatic hkP hinitP hy (g := g) hg (argsL := argsL) (rest := rest) (hlen _ hsigM) hstack hdg
  obtain ⟨v, B, X', hpost, hsteps⟩ := hK m meth c ⟨T.setVm vm₁, locs, cells, slots⟩ { g with stack := rest } (.invokestatic index) mk argsL.toArray X₁ hg hsize hdg hW (X₁.named hnamed) (hpre vm₁ X₁.warmed)
  exact ⟨v, vm₁, B, X₁.warmed, X', hpost, fun target h => hstep₁ _ fun acts => by rw [doInvoke_state]; exact hsteps.trans h⟩
theorem vx_runSW {y : MethodName} {bytes cc : ByteArray} {maxL nL mc ms n index : Nat} {ret : Option FieldType} {hh : List (Nat × Nat × Nat × Nat)} {ws : List Cond} {rm : Room} {Pc : Array Value → State → Prop} {Qc : Array Value → State → Outcome → State → Prop} {free : Addr → Prop} {Ts : List Cond} {own : String} {As rest : List Value} {g : JFrame}
    (S : CallFix p m c cc nL s args Ts own) (hM : Met l y ws rm Pc Qc mc ms free) (cw : vx_CSW R s args own index y bytes maxL ret hh ws rm mc ms n) (hp : PreS s H Pc As)
    (hg : g.method = m) (hn : As.length = n) (hsize : g.locals.size = nL) (hstack : g.stack = As.reverse ++ rest) (hW : 2 * g.monitorRoom + (rest.map fun v => v.category).sum ≤ 8) (hdg : decode cc g.pc = .ok (.invokestatic index, 3)) (hf : cells + mc ≤ R.cells ∧ slots + ms ≤ R.slots) :
    va_Run p l e R s m args below meth c H locs cells slots mc ms g rest (Qc As.toArray) (free) := by
  obtain ⟨⟨hrc, hrs, hfr, hlo, hws, hcw⟩, hcode, hini, hy, hlen, hl, hstt⟩ := cw
  have hK : Back l R p e below s args y 3 8 (PreOf R mc ms Pc) (PostOf Qc mc ms free) := va_backW (hh := hh) (bytes := bytes) (maxL := maxL) (ret := ret) hM hp.1 hrc hrs hfr hlo hws hcw (fun a' U hW => word_at hW (Or.inl (by first | rfl | simp [Cond.onTables, Cond.keeps, Cond.steady])) hini)
  obtain ⟨hx, hb, hml, ho, -⟩ := S
  intro T hT X
  obtain ⟨v, vm₁, ⟨U', l2, c2, s2⟩, hW₁, X', ⟨g', mk, t, L, e1, e2, hq, h1, hL, h2, h3⟩, st⟩ := vx_callSW X hx (hh := hh) (bytes := bytes) (maxL := maxL) (ret := ret) ho hl hstt hini hcode hy hK hg (hsize.trans hml.symm) (argsL := As) (rest := rest) (fun sig h => hn.trans (hlen sig h)) hstack hW (by rw [hb]; exact hdg)
    (fun vm₁ hW₁ => ⟨hf.1, hf.2, hp.2 (T.setVm vm₁) hT hW₁⟩)
  dsimp only [Pt.U, Pt.locs, Pt.cells, Pt.slots] at X' e1 e2 h1 h2 h3 st
  subst h1; subst h2; subst h3
  exact ⟨v, (T.setVm vm₁).calling g' mk As.toArray, t, U', L, hT, X', hL, e1, e2, hq, st⟩
/-- not caught here, past rows that name other classes: it goes on to the caller -/
theorem vx_outP {p : Program} {l : Launch} {e : Env} {R : Room} {s : State} {m : MethodId} {args : Array Value} {below : List Frame} {meth : Method} {c : Code} {H : Heap} {locs : List Loc} {cells slots : Nat} {free : Addr → Prop} {ls : Array Slot} {rest : List Value} {Qc : Array Value → State → Outcome → State → Prop} {XC : String → State → State → Prop}
    {pc : Nat} {own E : String} {ce : Cell} {q : Addr} {mc ms : Nat} (hown : s.vm.findClass own = some m.cls) (hlocks : meth.locks = false)
    (hpass : ∀ z ∈ c.exceptionTable.toList, covers z pc = false ∨ (z.catchType ≠ 0 ∧ ∃ nm : String, (Cond.classLink own z.catchType nm).before args s = true ∧ va_Nc E nm s)) (hcell : H[q]? = some ce) (hv : ce.vm = .none) (hcl : s.vm.findClass E = some ce.cls)
    (hx : ∀ t : State, t.heap = H → s.vm.Alike t.vm → XC E s t) (hf : ∀ z ∈ locs, free z.base) (hc : cells ≤ mc) (hs : slots ≤ ms) :
    vx_W p l e R s m args below meth c H locs cells slots (vx_MQ below Qc XC args s mc ms free) (F0 m pc ls rest) q := by
  intro T hT X
  have hpl : e.platform.magicAccessors = ({} : Platform).magicAccessors := by rw [X.admits.platform]
  obtain ⟨vm', hW', X', st⟩ := X.outThrough hlocks q (g := F0 m pc ls rest) rfl rfl rfl (cell := ce) (by rw [hT]; exact hcell) (by rw [hv]; rfl)
    (by obtain ⟨k9, h9, -⟩ := Vm.findClass_spec hcl; exact ⟨k9, h9⟩) (fun z hz => by
      rcases hpass z hz with h | ⟨hz0, nm, hl1, hn1⟩
      · exact Or.inl h
      · obtain ⟨c6, hc6, hcl6⟩ := Cond.classLink_spec hown hl1 e.platform hpl
        obtain ⟨a8, b8, h1, h2, h3⟩ := hn1
        cases Option.some.inj (h1.symm.trans hcl)
        cases Option.some.inj (h2.symm.trans hc6)
        exact Or.inr ⟨hz0, _, hcl6, h3⟩)
  obtain ⟨g₀, hfr⟩ := X'.frames_eq
  have hcell9 : ((T.setVm vm').setFrames (.throwing q :: below)).heap[q]? = some ce := by
    show T.heap[q]? = some ce
    rw [hT]; exact hcell
  have hend : Ended ((T.setVm vm').setFrames (.throwing q :: below)) below (.threw q) := State.frames_setFrames _ (State.cur_lt_of_frames hfr)
  refine ⟨(T.setVm vm').setFrames (.throwing q :: below), ?_, .threw q, X'.here.running, hend, Or.inr ⟨q, rfl, E, ce, locs, hx _ hT (X'.ends _).1.alike, hcell9, hv, hcl, (X'.ends _).1, (X'.ends _).2.mono hc hs, hf⟩⟩
  rw [X.pushThrowing_eq]
  exact st
/-- a thing of a world lies in the heap -/
theorem vx_lt {D : va_G} {cl : List vw_C} {ws : va_W} {H1 : Heap} (h : va_P D cl ws H1) {k : Nat} {q : Nat × va_E} (hk : ws[k]? = some q) : q.1 < H1.size := (h k q hk).lt
end VXS
/-! ===== END ===== -/
/-! ===== BEGIN methods with a table of their own: called by a name, returning or throwing ===== -/
section VXH
/-! vx_backW, vx_callVX, vx_callSX, vx_callVW, vx_runVW, vx_runVX, vx_runSX, vx_ofWH follow the same proofs as their sisters above (Free/Laws.lean, Shelf42/LK1.lean); vx_outP calls Shelf42/NT130.lean (outThrough). -/
section
variable {l : Launch} {R : Room} {p : Program} {e : Env} {below : List Frame} {s : State} {sargs : Array Value} {y : MethodName} {len W9 : Nat}
theorem vx_backW {ws : List Cond} {rm : Room} {Pc : Array Value → State → Prop} {Qc : Array Value → State → Outcome → State → Prop} {XC : String → State → State → Prop} {mc ms : Nat} {free : Addr → Prop} {bytes : ByteArray} {maxL : Nat} {ret : Option FieldType} {hh : List (Nat × Nat × Nat × Nat)}
    (hM : vx_Met l y ws rm Pc Qc XC mc ms free) (hblind : FrameBlind Pc) (hrc : rm.cells = mc) (hrs : rm.slots = ms)
    (hframes : rm.frames + 1 ≤ R.frames) (hlocals : W9 + (maxL + 11) + rm.locals ≤ R.locals)
    (hws : ∀ w ∈ ws, ∀ a' U, s.WarmedH U.vm → w.before a' U = true) (hcode : Cond.codeWith y bytes maxL ret hh ∈ ws) (hinit : ∀ a' U, s.WarmedH U.vm → (Cond.initialized y.cls).before a' U = true) :
    vx_Back l R p e below s sargs y len W9 (PreOf R mc ms Pc) (PostOf Qc mc ms free) (vx_Post XC mc ms free) := by
  intro m meth c A g ig mk a X hg hsize hdg hW hn hp
  have h1 : (headSpec ws rm).pre.before a A.U = true := atoms_intro fun w hw => hws w hw _ _ X.warmed
  have h2 : (Cond.codeWith y bytes maxL ret hh).before a A.U = true := hws _ hcode _ _ X.warmed
  have h3 : (Cond.initialized y.cls).before a A.U = true := hinit _ _ X.warmed
  have h4 : A.cells + (headSpec ws rm).room.cells ≤ R.cells := by rw [show (headSpec ws rm).room.cells = mc from hrc]; exact hp.1
  have h5 : A.slots + (headSpec ws rm).room.slots ≤ R.slots := by rw [show (headSpec ws rm).room.slots = ms from hrs]; exact hp.2.1
  have hPc : Pc a (A.U.calling g mk a) := hblind _ _ _ _ hp.2.2
  obtain ⟨U, Ls, c0, s0⟩ := A
  dsimp only [Pt.U, Pt.locs, Pt.cells, Pt.slots] at h1 h2 h3 h4 h5 X hn hPc ⊢
  obtain ⟨m9, methY, cY, hn9, hmY, hcY, -, hlY, -⟩ := Cond.codeWith_spec h2
  cases Option.some.inj (hn9.symm.trans hn)
  obtain ⟨kY, hkY, -⟩ := className_of_methodNamed hn
  have hinitY : kY.init = .initialized := Cond.initialized_spec (findClass_of_methodNamed hn) hkY h3
  have h : At U g.method c below := by rw [hg]; exact X.here
  have hlocals9 : W9 + (maxL + 11) + (headSpec ws rm).room.locals ≤ R.locals := hlocals
  have happ : (headSpec ws rm).appliesLoose y e.platform (U.calling g mk a) = true :=
    Spec.appliesLoose_calling (g := g) h hdg hn hkY hinitY
      (X.room_calling (g := g) (R' := (headSpec ws rm).room) hsize hmY hcY hframes (by rw [hlY]; omega) h4 h5) h1
  obtain ⟨mid, hmid⟩ := h.above
  have hfr : (U.setTop g).frames = (.java g :: mid) ++ below := by rw [State.frames_setTop' g h.top, hmid]; rfl
  obtain ⟨o, s₂, hsteps, -, hend, hq⟩ := Steps.callFree hM p X.admits X.cas X.clock (acts := []) hfr happ hPc trivial
  have hq' : vx_Q Qc XC mc ms free a (U.calling g mk a) o s₂ := hq
  rw [State.frames_setTop' g h.top] at hend
  obtain ⟨g₀, hg0⟩ := Option.isSome_iff_exists.mp h.top
  obtain ⟨r, hr⟩ := State.topJava?_eq_some.mp hg0
  have hr' : (({ U with heap := s₂.heap, slotsUsed := s₂.slotsUsed } : State).setVm s₂.vm).frames = .java g₀ :: r := hr
  rcases hq' with ⟨hqc, L, hfe, hL⟩ | ⟨q, rfl, E, ce, L, hx, hce, hcv, hcl, hW₂, hsm, hL⟩
  · obtain ⟨⟨v, rfl⟩, hW₂, e2, q2, q3, q4, q5, q6⟩ := id hfe
    have e3 : s₂ = ({ (U.calling g mk a).setFrames s₂.frames with heap := s₂.heap, slotsUsed := s₂.slotsUsed } : State).setVm s₂.vm := by
      have : s₂ = ({ s₂ with vm := (U.calling g mk a).vm } : State).setVm s₂.vm := rfl
      rw [e2] at this
      exact this
    obtain ⟨c₂, i₂, len₂, hc₂, hd₂, hf₂⟩ := hend
    have hW' : U.WarmedH s₂.vm := hW₂
    have hcc : c₂ = c := by
      have h1 : s₂.code? g.method = U.code? g.method := by
        rw [State.code?_eq, State.code?_eq, hW'.alike.method?]
      exact Option.some.inj (hc₂.symm.trans (h1.trans h.code))
    subst hcc
    have hlen : len₂ = len := by rw [hdg] at hd₂; cases hd₂; rfl
    subst hlen
    have hs₂ : s₂ = (({ U with heap := s₂.heap, slotsUsed := s₂.slotsUsed } : State).setVm s₂.vm).setTop { g with pc := g.pc + len₂, stack := v.toList ++ g.stack } := by
      refine e3.trans ?_
      rw [hf₂, State.calling_eq h.top, State.setFrames_setFrames, State.setTop_of_frames _ hr', hr]
      rfl
    have hsame : U.sameButNew ({ U with heap := s₂.heap, slotsUsed := s₂.slotsUsed } : State) L mc ms := by
      refine ⟨?_, q2, q3, q4, q5, q6⟩
      obtain ⟨t, ht, -⟩ := State.frames_cons hr
      show ({ U with heap := s₂.heap, slotsUsed := s₂.slotsUsed } : State) = { U.setFrames U.frames with heap := s₂.heap, slotsUsed := s₂.slotsUsed }
      rw [State.setFrames_self ht]
    subst hg
    refine Or.inl ⟨v, ⟨(({ U with heap := s₂.heap, slotsUsed := s₂.slotsUsed } : State).setVm s₂.vm), Ls ++ L, c0 + mc, s0 + ms⟩,
      ⟨X.admits, X.cas, X.clock, X.frames, X.room, X.hears, X.method, X.code, (X.here.setHeapUsed s₂.heap s₂.slotsUsed).setVm hW'.alike, X.tail, State.WarmedH.trans X.warmed hW', X.limits, X.bytes, X.same.trans (hsame.setVm s.vm)⟩,
      ⟨g, mk, s₂, L, rfl, rfl, hqc, rfl, hL, rfl, rfl⟩, ?_⟩
    show Steps p.tables e below _ ((({ U with heap := s₂.heap, slotsUsed := s₂.slotsUsed } : State).setVm s₂.vm).setTop { g with pc := g.pc + len₂, stack := v.toList ++ g.stack })
    rw [← hs₂]
    exact hsteps
  · obtain ⟨e2, q2, q3, q4, q5, q6⟩ := id hsm
    have e3 : s₂ = ({ (U.calling g mk a).setFrames s₂.frames with heap := s₂.heap, slotsUsed := s₂.slotsUsed } : State).setVm s₂.vm := by
      have : s₂ = ({ s₂ with vm := (U.calling g mk a).vm } : State).setVm s₂.vm := rfl
      rw [e2] at this
      exact this
    have hf₂ : s₂.frames = .throwing q :: .java g :: U.frames.tail := hend
    have hW' : U.WarmedH s₂.vm := hW₂
    have hs₂ : s₂ = ((({ U with heap := s₂.heap, slotsUsed := s₂.slotsUsed } : State).setVm s₂.vm).setTop g).pushFrame (.throwing q) := by
      refine e3.trans ?_
      rw [hf₂, State.calling_eq h.top, State.setFrames_setFrames, State.pushFrame, State.frames_setTop _ hr', State.setTop_of_frames _ hr', State.setFrames_setFrames, hr]
      rfl
    have hsame : U.sameButNew ({ U with heap := s₂.heap, slotsUsed := s₂.slotsUsed } : State) L mc ms := by
      refine ⟨?_, q2, q3, q4, q5, q6⟩
      obtain ⟨t, ht, -⟩ := State.frames_cons hr
      show ({ U with heap := s₂.heap, slotsUsed := s₂.slotsUsed } : State) = { U.setFrames U.frames with heap := s₂.heap, slotsUsed := s₂.slotsUsed }
      rw [State.setFrames_self ht]
    subst hg
    refine Or.inr ⟨q, ⟨(({ U with heap := s₂.heap, slotsUsed := s₂.slotsUsed } : State).setVm s₂.vm), Ls ++ L, c0 + mc, s0 + ms⟩,
      ⟨X.admits, X.cas, X.clock, X.frames, X.room, X.hears, X.method, X.code, (X.here.setHeapUsed s₂.heap s₂.slotsUsed).setVm hW'.alike, X.tail, State.WarmedH.trans X.warmed hW', X.limits, X.bytes, X.same.trans (hsame.setVm s.vm)⟩,
      ⟨g, mk, s₂, L, E, ce, rfl, rfl, hx, hce, hcv, hcl, rfl, hL, rfl, rfl⟩, ?_⟩
    show Steps p.tables e below _ (((({ U with heap := s₂.heap, slotsUsed := s₂.slotsUsed } : State).setVm s₂.vm).setTop g).pushFrame (.throwing q))
    rw [← hs₂]
    exact hsteps
end
variable {p : Program} {l : Launch} {e : Env} {R : Room} {s : State} {m : MethodId} {args : Array Value} {below : List Frame} {meth : Method} {c : Code} {T : State} {H : Heap} {locs : List Loc} {cells slots : Nat}
theorem vx_callVX (X : Stand p l e R s m args below meth c T locs cells slots) (hexec : p.tables.exec = Jvm.exec) {own C : String} {index : Nat} {y : MethodName} {bytes : ByteArray} {maxL : Nat} {ret : Option FieldType} {hh : List (Nat × Nat × Nat × Nat)}
    (hown : s.vm.findClass own = some m.cls) (hlink : (Cond.methodLink own index y).before args s = true) (hinst : (Cond.instanceMethod y).before args s = true) (hsel : (Cond.selects C y y).before args s = true)
    (hcode : (Cond.codeWith y bytes maxL ret hh).before args s = true) (hy : y.cls ≠ "java/lang/invoke/MethodHandle" ∧ y.cls ≠ "java/lang/invoke/VarHandle")
    {W9 : Nat} {Pre : Pt → Array Value → Prop} {Post : Pt → Array Value → Option Value → Pt → Prop} {PostX : Pt → Array Value → Addr → Pt → Prop} (hK : vx_Back l R p e below s args y 3 W9 Pre Post PostX)
    {b : Addr} {cellB : Cell} (hcell : T.heap[b]? = some cellB) (hobj : cellB.vm.isStatics = false) (hcls : s.vm.findClass C = some cellB.cls)
    {g : JFrame} (hg : g.method = m) (hsize : g.locals.size = c.maxLocals) {argsL rest : List Value} (hlen : ∀ sig, parseMethodDescriptor y.desc = some sig → argsL.length = sig.parameters.length)
    (hstack : g.stack = argsL.reverse ++ .ref b :: rest) (hW : 2 * g.monitorRoom + (rest.map fun v => v.category).sum ≤ W9) (hdg : decode c.code g.pc = .ok (.invokevirtual index, 3))
    (hpre : ∀ vm₁, s.WarmedH vm₁ → Pre ⟨T.setVm vm₁, locs, cells, slots⟩ (Value.ref b :: argsL).toArray) :
    (∃ (v : Option Value) (vm₁ : Vm) (B : Pt), s.WarmedH vm₁ ∧ Stand p l e R s m args below meth c B.U B.locs B.cells B.slots ∧ Post ⟨T.setVm vm₁, locs, cells, slots⟩ (Value.ref b :: argsL).toArray v B ∧
      ∀ target, Steps p.tables e below (B.U.setTop { g with pc := g.pc + 3, stack := v.toList ++ rest }) target → Steps p.tables e below (T.setTop g) target) ∨
    (∃ (q : Addr) (vm₁ : Vm) (B : Pt), s.WarmedH vm₁ ∧ Stand p l e R s m args below meth c B.U B.locs B.cells B.slots ∧ PostX ⟨T.setVm vm₁, locs, cells, slots⟩ (Value.ref b :: argsL).toArray q B ∧
      Steps p.tables e below (T.setTop g) ((B.U.setTop { g with stack := rest }).pushFrame (.throwing q))) := by
  obtain ⟨mk, methM, hnamed, hmethM, hstM, habM⟩ := Cond.instanceMethod_spec hinst
  obtain ⟨m8, methM', cM, hn8, hmethM', -, -, -, -, -, -, hsigM⟩ := Cond.codeWith_spec hcode
  cases Option.some.inj (hn8.symm.trans hnamed)
  cases hmethM.symm.trans hmethM'
  obtain ⟨c2, r2, m2, q1, q2, q3, q4, kP, hkP, hkPi⟩ := Cond.selects_spec hsel
  cases hcls.symm.trans q1
  cases (State.methodFound?_of_named hnamed hy).symm.trans q2
  cases hnamed.symm.trans q3
  have hselP : selectMethod e.platform s.vm cellB.cls mk = .method mk := by rw [Launch.admits_selectMethod X.admits]; exact q4
  obtain ⟨vm₁, X₁, hstep₁⟩ := X.invokevirtual hexec hown hlink hnamed hmethM hstM hkP hkPi hy (a := b) (cell := cellB) hcell
    (fun z h => by rw [h] at hobj; cases hobj) hselP hmethM habM hkP hkPi (g := g) hg (argsL := argsL) (rest := rest) (hlen _ hsigM) hstack hdg
  rcases hK m meth c ⟨T.setVm vm₁, locs, cells, slots⟩ { g with stack := rest } (.invokevirtual index) mk (Value.ref b :: argsL).toArray X₁ hg hsize hdg hW (X₁.named hnamed) (hpre vm₁ X₁.warmed) with ⟨v, B, X', hpost, hsteps⟩ | ⟨q, B, X', hpost, hsteps⟩
  · exact Or.inl ⟨v, vm₁, B, X₁.warmed, X', hpost, fun target h => hstep₁ _ fun acts => by rw [doInvoke_state]; exact hsteps.trans h⟩
  · exact Or.inr ⟨q, vm₁, B, X₁.warmed, X', hpost, hstep₁ _ fun acts => by rw [doInvoke_state]; exact hsteps⟩
theorem vx_callSX (X : Stand p l e R s m args below meth c T locs cells slots) (hexec : p.tables.exec = Jvm.exec) {own : String} {index : Nat} {y : MethodName} {bytes : ByteArray} {maxL : Nat} {ret : Option FieldType} {hh : List (Nat × Nat × Nat × Nat)}
    (hown : s.vm.findClass own = some m.cls) (hlink : (Cond.methodLink own index y).before args s = true) (hstat : (Cond.static y).before args s = true) (hinit : (Cond.initialized y.cls).before args s = true)
    (hcode : (Cond.codeWith y bytes maxL ret hh).before args s = true) (hy : y.cls ≠ "java/lang/invoke/MethodHandle" ∧ y.cls ≠ "java/lang/invoke/VarHandle")
    {W9 : Nat} {Pre : Pt → Array Value → Prop} {Post : Pt → Array Value → Option Value → Pt → Prop} {PostX : Pt → Array Value → Addr → Pt → Prop} (hK : vx_Back l R p e below s args y 3 W9 Pre Post PostX)
    {g : JFrame} (hg : g.method = m) (hsize : g.locals.size = c.maxLocals) {argsL rest : List Value} (hlen : ∀ sig, parseMethodDescriptor y.desc = some sig → argsL.length = sig.parameters.length)
    (hstack : g.stack = argsL.reverse ++ rest) (hW : 2 * g.monitorRoom + (rest.map fun v => v.category).sum ≤ W9) (hdg : decode c.code g.pc = .ok (.invokestatic index, 3))
    (hpre : ∀ vm₁, s.WarmedH vm₁ → Pre ⟨T.setVm vm₁, locs, cells, slots⟩ argsL.toArray) :
    (∃ (v : Option Value) (vm₁ : Vm) (B : Pt), s.WarmedH vm₁ ∧ Stand p l e R s m args below meth c B.U B.locs B.cells B.slots ∧ Post ⟨T.setVm vm₁, locs, cells, slots⟩ argsL.toArray v B ∧
      ∀ target, Steps p.tables e below (B.U.setTop { g with pc := g.pc + 3, stack := v.toList ++ rest }) target → Steps p.tables e below (T.setTop g) target) ∨
    (∃ (q : Addr) (vm₁ : Vm) (B : Pt), s.WarmedH vm₁ ∧ Stand p l e R s m args below meth c B.U B.locs B.cells B.slots ∧ PostX ⟨T.setVm vm₁, locs, cells, slots⟩ argsL.toArray q B ∧
      Steps p.tables e below (T.setTop g) ((B.U.setTop { g with stack := rest }).pushFrame (.throwing q))) := by
  obtain ⟨mk, methM, cM, hnamed, hmethM, -, -, -, -, -, -, hsigM⟩ := Cond.codeWith_spec hcode
  have hstatic : methM.isStatic = true := Cond.static_spec hnamed hmethM hstat
  obtain ⟨kP, hkP, -⟩ := className_of_methodNamed hnamed
  have hinitP : kP.init = .initialized := Cond.initialized_spec (findClass_of_methodNamed hnamed) hkP hinit
  obtain ⟨vm₁, X₁, hstep₁⟩ := X.invokestatic hexec hown hlink hnamed hmethM hstatic hkP hinitP hy (g := g) hg (argsL := argsL) (rest := rest) (hlen _ hsigM) hstack hdg
  rcases hK m meth c ⟨T.setVm vm₁, locs, cells, slots⟩ { g with stack := rest } (.invokestatic index) mk argsL.toArray X₁ hg hsize hdg hW (X₁.named hnamed) (hpre vm₁ X₁.warmed) with ⟨v, B, X', hpost, hsteps⟩ | ⟨q, B, X', hpost, hsteps⟩
  · exact Or.inl ⟨v, vm₁, B, X₁.warmed, X', hpost, fun target h => hstep₁ _ fun acts => by rw [doInvoke_state]; exact hsteps.trans h⟩
  · exact Or.inr ⟨q, vm₁, B, X₁.warmed, X', hpost, hstep₁ _ fun acts => by rw [doInvoke_state]; exact hsteps⟩
theorem vx_callVW (X : Stand p l e R s m args below meth c T locs cells slots) (hexec : p.tables.exec = Jvm.exec) {own C : String} {index : Nat} {y : MethodName} {bytes : ByteArray} {maxL : Nat} {ret : Option FieldType} {hh : List (Nat × Nat × Nat × Nat)}
    (hown : s.vm.findClass own = some m.cls) (hlink : (Cond.methodLink own index y).before args s = true) (hinst : (Cond.instanceMethod y).before args s = true) (hsel : (Cond.selects C y y).before args s = true)
    (hcode : (Cond.codeWith y bytes maxL ret hh).before args s = true) (hy : y.cls ≠ "java/lang/invoke/MethodHandle" ∧ y.cls ≠ "java/lang/invoke/VarHandle")
    {W9 : Nat} {Pre : Pt → Array Value → Prop} {Post : Pt → Array Value → Option Value → Pt → Prop} (hK : Back l R p e below s args y 3 W9 Pre Post)
    {b : Addr} {cellB : Cell} (hcell : T.heap[b]? = some cellB) (hobj : cellB.vm.isStatics = false) (hcls : s.vm.findClass C = some cellB.cls)
    {g : JFrame} (hg : g.method = m) (hsize : g.locals.size = c.maxLocals) {argsL rest : List Value} (hlen : ∀ sig, parseMethodDescriptor y.desc = some sig → argsL.length = sig.parameters.length)
    (hstack : g.stack = argsL.reverse ++ .ref b :: rest) (hW : 2 * g.monitorRoom + (rest.map fun v => v.category).sum ≤ W9) (hdg : decode c.code g.pc = .ok (.invokevirtual index, 3))
    (hpre : ∀ vm₁, s.WarmedH vm₁ → Pre ⟨T.setVm vm₁, locs, cells, slots⟩ (Value.ref b :: argsL).toArray) :
    ∃ (v : Option Value) (vm₁ : Vm) (B : Pt), s.WarmedH vm₁ ∧ Stand p l e R s m args below meth c B.U B.locs B.cells B.slots ∧ Post ⟨T.setVm vm₁, locs, cells, slots⟩ (Value.ref b :: argsL).toArray v B ∧
      ∀ target, Steps p.tables e below (B.U.setTop { g with pc := g.pc + 3, stack := v.toList ++ rest }) target → Steps p.tables e below (T.setTop g) target := by
  obtain ⟨mk, methM, hnamed, hmethM, hstM, habM⟩ := Cond.instanceMethod_spec hinst
  obtain ⟨m8, methM', cM, hn8, hmethM', -, -, -, -, -, -, hsigM⟩ := Cond.codeWith_spec hcode
  cases Option.some.inj (hn8.symm.trans hnamed)
  cases hmethM.symm.trans hmethM'
  obtain ⟨c2, r2, m2, q1, q2, q3, q4, kP, hkP, hkPi⟩ := Cond.selects_spec hsel
  cases hcls.symm.trans q1
  cases (State.methodFound?_of_named hnamed hy).symm.trans q2
  cases hnamed.symm.trans q3
  have hselP : selectMethod e.platform s.vm cellB.cls mk = .method mk := by rw [Launch.admits_selectMethod X.admits]; exact q4
  obtain ⟨vm₁, X₁, hstep₁⟩ := X.invokevirtual hexec hown hlink hnamed hmethM hstM hkP hkPi hy (a := b) (cell := cellB) hcell
    (fun z h => by rw [h] at hobj; cases hobj) hselP hmethM habM hkP hkPi (g := g) hg (argsL := argsL) (rest := rest) (hlen _ hsigM) hstack hdg
  obtain ⟨v, B, X', hpost, hsteps⟩ := hK m meth c ⟨T.setVm vm₁, locs, cells, slots⟩ { g with stack := rest } (.invokevirtual index) mk (Value.ref b :: argsL).toArray X₁ hg hsize hdg hW (X₁.named hnamed) (hpre vm₁ X₁.warmed)
  exact ⟨v, vm₁, B, X₁.warmed, X', hpost, fun target h => hstep₁ _ fun acts => by rw [doInvoke_state]; exact hsteps.trans h⟩
abbrev vx_CVW (R : Room) (s : State) (args : Array Value) (own C : String) (index : Nat) (y : MethodName) (bytes : ByteArray) (maxL : Nat) (ret : Option FieldType) (hh : List (Nat × Nat × Nat × Nat)) (ws : List Cond) (rm : Room) (mc ms n : Nat) : Prop :=
  (rm.cells = mc ∧ rm.slots = ms ∧ rm.frames + 1 ≤ R.frames ∧ 8 + (maxL + 11) + rm.locals ≤ R.locals ∧ (∀ w ∈ ws, ∀ (a' : Array Value) (U : State), s.WarmedH U.vm → w.before a' U = true) ∧ Cond.codeWith y bytes maxL ret hh ∈ ws) ∧
  (Cond.codeWith y bytes maxL ret hh).before args s = true ∧ (Cond.initialized y.cls).before args s = true ∧ (y.cls ≠ "java/lang/invoke/MethodHandle" ∧ y.cls ≠ "java/lang/invoke/VarHandle") ∧
  (∀ sig, parseMethodDescriptor y.desc = some sig → n = sig.parameters.length) ∧ (Cond.methodLink own index y).before args s = true ∧ (Cond.instanceMethod y).before args s = true ∧ (Cond.selects C y y).before args s = true
theorem vx_cwVW {own C : String} {index maxL mc ms : Nat} {y : MethodName} {bytes : ByteArray} {ret : Option FieldType} {hh : List (Nat × Nat × Nat × Nat)} {Ts ws ws' : List Cond} {rm : Room} (n : Nat) (ht : ∀ w ∈ Ts, w.before args s = true) (hT : GoodIn Ts (wsV own index C y ws)) (hw : ws = Cond.codeWith y bytes maxL ret hh :: ws') (hrc : rm.cells = mc) (hrs : rm.slots = ms)
    (hd : y.cls = C ∧ y.cls ≠ "java/lang/invoke/MethodHandle" ∧ y.cls ≠ "java/lang/invoke/VarHandle" ∧ (parseMethodDescriptor y.desc).map (fun d => d.parameters.length) = some n) (hR : rm.frames + 1 ≤ R.frames ∧ 8 + (maxL + 11) + rm.locals ≤ R.locals) :
    vx_CVW R s args own C index y bytes maxL ret hh ws rm mc ms n := by
  obtain ⟨hC, hd⟩ := hd
  subst hC
  have ok : ∀ w ∈ wsV own index y.cls y ws, w.before args s = true := fun w h => ht w (hT w h).1
  have hG : GoodIn Ts ws := fun w h => hT w (by unfold wsV; exact List.mem_append_right _ h)
  have hc : Cond.codeWith y bytes maxL ret hh ∈ ws := by rw [hw]; exact List.mem_cons_self
  refine ⟨⟨hrc, hrs, hR.1, hR.2, pay_in ht hG, hc⟩, ht _ (hG _ hc).1, ok _ (by simp [wsV]), ⟨hd.1, hd.2.1⟩, fun sig h => ?_, ok _ (by simp [wsV]), ok _ (by simp [wsV]), ok _ (by simp [wsV])⟩
  have h2 := hd.2.2
  rw [h] at h2
  exact (Option.some.inj h2).symm
theorem vx_runVW {y : MethodName} {bytes cc : ByteArray} {maxL nL mc ms n index : Nat} {ret : Option FieldType} {hh : List (Nat × Nat × Nat × Nat)} {ws : List Cond} {rm : Room} {Pc : Array Value → State → Prop} {Qc : Array Value → State → Outcome → State → Prop} {free : Addr → Prop} {Ts : List Cond} {own C : String} {b : Addr} {As rest : List Value} {g : JFrame}
    (S : CallFix p m c cc nL s args Ts own) (hM : Met l y ws rm Pc Qc mc ms free) (cw : vx_CVW R s args own C index y bytes maxL ret hh ws rm mc ms n) (hp : PreV s H C b Pc As)
    (hg : g.method = m) (hn : As.length = n) (hsize : g.locals.size = nL) (hstack : g.stack = As.reverse ++ .ref b :: rest) (hW : 2 * g.monitorRoom + (rest.map fun v => v.category).sum ≤ 8) (hdg : decode cc g.pc = .ok (.invokevirtual index, 3)) (hf : cells + mc ≤ R.cells ∧ slots + ms ≤ R.slots) :
    va_Run p l e R s m args below meth c H locs cells slots mc ms g rest (Qc (Value.ref b :: As).toArray) free := by
  obtain ⟨⟨hrc, hrs, hfr, hlo, hws, hcw⟩, hcode, hini, hy, hlen, hl, hin, hse⟩ := cw
  have hK : Back l R p e below s args y 3 8 (PreOf R mc ms Pc) (PostOf Qc mc ms free) := va_backW (hh := hh) (bytes := bytes) (maxL := maxL) (ret := ret) hM hp.1 hrc hrs hfr hlo hws hcw (fun a' U hW => word_at hW (Or.inl (by first | rfl | simp [Cond.onTables, Cond.keeps, Cond.steady])) hini)
  obtain ⟨hx, hb, hml, ho, -⟩ := S
  obtain ⟨-, ⟨cellB, hcB, hoB, hclB⟩, hPc⟩ := hp
  intro T hT X
  obtain ⟨v, vm₁, ⟨U', l2, c2, s2⟩, hW₁, X', ⟨g', mk, t, L, e1, e2, hq, h1, hL, h2, h3⟩, st⟩ := vx_callVW X hx (C := C) (hh := hh) (bytes := bytes) (maxL := maxL) (ret := ret) ho hl hin hse hcode hy hK (by rw [hT]; exact hcB) hoB hclB hg (hsize.trans hml.symm) (argsL := As) (rest := rest) (fun sig h => hn.trans (hlen sig h)) hstack hW (by rw [hb]; exact hdg)
    (fun vm₁ hW₁ => ⟨hf.1, hf.2, hPc (T.setVm vm₁) hT hW₁⟩)
  dsimp only [Pt.U, Pt.locs, Pt.cells, Pt.slots] at X' e1 e2 h1 h2 h3 st
  subst h1; subst h2; subst h3
  exact ⟨v, (T.setVm vm₁).calling g' mk (Value.ref b :: As).toArray, t, U', L, hT, X', hL, e1, e2, hq, st⟩
section
variable {y : MethodName} {bytes cc : ByteArray} {maxL nL mc ms n index : Nat} {ret : Option FieldType} {ws : List Cond} {rm : Room} {Pc : Array Value → State → Prop} {Qc : Array Value → State → Outcome → State → Prop} {XC : String → State → State → Prop} {free : Addr → Prop} {Ts : List Cond} {own C : String} {b : Addr} {As rest : List Value} {g : JFrame}
theorem vx_runVX {hh : List (Nat × Nat × Nat × Nat)} (S : CallFix p m c cc nL s args Ts own) (hM : vx_Met l y ws rm Pc Qc XC mc ms free) (cw : vx_CVW R s args own C index y bytes maxL ret hh ws rm mc ms n) (hp : PreV s H C b Pc As)
    (hg : g.method = m) (hn : As.length = n) (hsize : g.locals.size = nL) (hstack : g.stack = As.reverse ++ .ref b :: rest) (hW : 2 * g.monitorRoom + (rest.map fun v => v.category).sum ≤ 8) (hdg : decode cc g.pc = .ok (.invokevirtual index, 3)) (hf : cells + mc ≤ R.cells ∧ slots + ms ≤ R.slots) :
    vx_Run p l e R s m args below meth c H locs cells slots mc ms g rest (Qc (Value.ref b :: As).toArray) XC free := by
  obtain ⟨⟨hrc, hrs, hfr, hlo, hws, hcw⟩, hcode, hini, hy, hlen, hl, hin, hse⟩ := cw
  have hK : vx_Back l R p e below s args y 3 8 (PreOf R mc ms Pc) (PostOf Qc mc ms free) (vx_Post XC mc ms free) := vx_backW (hh := hh) (bytes := bytes) (maxL := maxL) (ret := ret) hM hp.1 hrc hrs hfr hlo hws hcw (fun a' U hW => word_at hW (Or.inl (by first | rfl | simp [Cond.onTables, Cond.keeps, Cond.steady])) hini)
  obtain ⟨hx, hb, hml, ho, -⟩ := S
  obtain ⟨-, ⟨cellB, hcB, hoB, hclB⟩, hPc⟩ := hp
  intro T hT X
  rcases vx_callVX X hx (C := C) (hh := hh) (bytes := bytes) (maxL := maxL) (ret := ret) ho hl hin hse hcode hy hK (by rw [hT]; exact hcB) hoB hclB hg (hsize.trans hml.symm) (argsL := As) (rest := rest) (fun sig h => hn.trans (hlen sig h)) hstack hW (by rw [hb]; exact hdg)
    (fun vm₁ hW₁ => ⟨hf.1, hf.2, hPc (T.setVm vm₁) hT hW₁⟩) with ⟨v, vm₁, ⟨U', l2, c2, s2⟩, hW₁, X', ⟨g', mk, t, L, e1, e2, hq, h1, hL, h2, h3⟩, st⟩ | ⟨q, vm₁, ⟨U', l2, c2, s2⟩, hW₁, X', ⟨g', mk, t, L, E, ce, e1, e2, hq, hce, hcv, hcl, h1, hL, h2, h3⟩, st⟩
  · dsimp only [Pt.U, Pt.locs, Pt.cells, Pt.slots] at X' e1 e2 h1 h2 h3 st
    subst h1; subst h2; subst h3
    exact Or.inl ⟨v, (T.setVm vm₁).calling g' mk (Value.ref b :: As).toArray, t, U', L, hT, X', hL, e1, e2, hq, st⟩
  · dsimp only [Pt.U, Pt.locs, Pt.cells, Pt.slots] at X' e1 e2 h1 h2 h3 st hcl
    subst h1; subst h2; subst h3
    exact Or.inr ⟨q, (T.setVm vm₁).calling g' mk (Value.ref b :: As).toArray, t, U', L, E, ce, hT, X', hL, e1, e2, hq, hce, hcv, vx_cls hW₁ hcl, st⟩
theorem vx_runSX {hh : List (Nat × Nat × Nat × Nat)} (S : CallFix p m c cc nL s args Ts own) (hM : vx_Met l y ws rm Pc Qc XC mc ms free) (cw : vx_CSW R s args own index y bytes maxL ret hh ws rm mc ms n) (hp : PreS s H Pc As)
    (hg : g.method = m) (hn : As.length = n) (hsize : g.locals.size = nL) (hstack : g.stack = As.reverse ++ rest) (hW : 2 * g.monitorRoom + (rest.map fun v => v.category).sum ≤ 8) (hdg : decode cc g.pc = .ok (.invokestatic index, 3)) (hf : cells + mc ≤ R.cells ∧ slots + ms ≤ R.slots) :
    vx_Run p l e R s m args below meth c H locs cells slots mc ms g rest (Qc As.toArray) XC free := by
  obtain ⟨⟨hrc, hrs, hfr, hlo, hws, hcw⟩, hcode, hini, hy, hlen, hl, hstt⟩ := cw
  have hK : vx_Back l R p e below s args y 3 8 (PreOf R mc ms Pc) (PostOf Qc mc ms free) (vx_Post XC mc ms free) := vx_backW (hh := hh) (bytes := bytes) (maxL := maxL) (ret := ret) hM hp.1 hrc hrs hfr hlo hws hcw (fun a' U hW => word_at hW (Or.inl (by first | rfl | simp [Cond.onTables, Cond.keeps, Cond.steady])) hini)
  obtain ⟨hx, hb, hml, ho, -⟩ := S
  intro T hT X
  rcases vx_callSX X hx (hh := hh) (bytes := bytes) (maxL := maxL) (ret := ret) ho hl hstt hini hcode hy hK hg (hsize.trans hml.symm) (argsL := As) (rest := rest) (fun sig h => hn.trans (hlen sig h)) hstack hW (by rw [hb]; exact hdg)
    (fun vm₁ hW₁ => ⟨hf.1, hf.2, hp.2 (T.setVm vm₁) hT hW₁⟩) with ⟨v, vm₁, ⟨U', l2, c2, s2⟩, hW₁, X', ⟨g', mk, t, L, e1, e2, hq, h1, hL, h2, h3⟩, st⟩ | ⟨q, vm₁, ⟨U', l2, c2, s2⟩, hW₁, X', ⟨g', mk, t, L, E, ce, e1, e2, hq, hce, hcv, hcl, h1, hL, h2, h3⟩, st⟩
  · dsimp only [Pt.U, Pt.locs, Pt.cells, Pt.slots] at X' e1 e2 h1 h2 h3 st
    subst h1; subst h2; subst h3
    exact Or.inl ⟨v, (T.setVm vm₁).calling g' mk As.toArray, t, U', L, hT, X', hL, e1, e2, hq, st⟩
  · dsimp only [Pt.U, Pt.locs, Pt.cells, Pt.slots] at X' e1 e2 h1 h2 h3 st hcl
    subst h1; subst h2; subst h3
    exact Or.inr ⟨q, (T.setVm vm₁).calling g' mk As.toArray, t, U', L, E, ce, hT, X', hL, e1, e2, hq, hce, hcv, vx_cls hW₁ hcl, st⟩
end
end VXH
theorem vx_ofWH {l : Launch} {y : MethodName} {ws ws' : List Cond} {rm : Room} {Pc : Array Value → State → Prop} {Qc : Array Value → State → Outcome → State → Prop} {XC : String → State → State → Prop} {mc ms : Nat} {free : Addr → Prop} {cc : ByteArray} {maxL : Nat} {ret : Option FieldType} {hh : List (Nat × Nat × Nat × Nat)}
    (hy : plainName y.cls = true) (hw : ws = Cond.codeWith y cc maxL ret hh :: ws')
    (body : ∀ p e s m args below meth c s₁, BodyLoose p l y (headSpec ws rm) cc maxL ret e s m args below meth c s₁ → c.maxLocals = maxL → Pc args s →
      W p l e (headSpec ws rm).room s m args below meth c s.heap [] 0 0 (vx_MQ below Qc XC args s mc ms free) (entryFrame m args maxL)) : vx_Met l y ws rm Pc Qc XC mc ms free := by
  refine MetFree.of_bodyS (code := cc) (maxLocals := maxL) (ret := ret) hy ?_ ?_
  · intro args s m h hn
    obtain ⟨m9, meth, c, hn9, h1, h2, h3, h4, -, h5, h6, -⟩ := Cond.codeWith_spec (atoms_spec (ws := ws) h _ (by rw [hw]; exact List.mem_cons_self))
    cases hn.symm.trans hn9
    exact ⟨meth, c, h1, h2, h3, h4, h5, h6⟩
  · intro p e s m args below meth c s₁ B hml hP _
    have hh0 : s₁.heap = s.heap := by rw [B.state]; rfl
    obtain ⟨t, a1, o, b1, b2, b3⟩ := body p e s m args below meth c s₁ B hml hP s₁ hh0 (Stand.of_body B)
    exact ⟨t, o, a1, b1, b2, b3⟩
/-! ===== END ===== -/
end
section
def RX0 : String := "Belowhouse$Chains"
def TX0 : u_T := fun k => match k with
  | 0 => ("Belowhouse$Chains", "ahead", "[I", true)
  | _ => ("Belowhouse$Chains", "searched", "[I", true)
def tyX0 : Nat → FieldType := fun k => match k with
  | 0 => .array .int
  | _ => .array .int
theorem nmX0 : ∀ a, a < 2 → ∀ b, b < 2 → a ≠ b → (TX0 a).2.1 ≠ (TX0 b).2.1 := by decide +kernel
theorem tyX0_ok : ∀ k, k < 2 → parseFieldDescriptor (TX0 k).2.2.1 = some (tyX0 k) := by decide +kernel
abbrev cX0_init : ByteArray := prog_2_method_1_code
def yX0_init : MethodName := ⟨RX0, "<init>", "()V"⟩
abbrev cX0_longestWithin : ByteArray := prog_2_method_2_code
def yX0_longestWithin : MethodName := ⟨RX0, "longestWithin", "(LBelowhouse$Order;I)I"⟩
abbrev cX0_mostApart : ByteArray := prog_2_method_3_code
def yX0_mostApart : MethodName := ⟨RX0, "mostApart", "(LBelowhouse$Order;)I"⟩
abbrev cX0_apartCount : ByteArray := prog_2_method_4_code
def yX0_apartCount : MethodName := ⟨RX0, "apartCount", "(LBelowhouse$Order;)I"⟩
abbrev cX0_layerCount : ByteArray := prog_2_method_5_code
def yX0_layerCount : MethodName := ⟨RX0, "layerCount", "(LBelowhouse$Order;)I"⟩
abbrev cX0_chainCover : ByteArray := prog_2_method_6_code
def yX0_chainCover : MethodName := ⟨RX0, "chainCover", "(LBelowhouse$Order;)I"⟩
abbrev cX0_findsFollower : ByteArray := prog_2_method_7_code
def yX0_findsFollower : MethodName := ⟨RX0, "findsFollower", "(LBelowhouse$Order;[I[IIII)Z"⟩
def RX1 : String := "Belowhouse$ClosedSets"
def TX1 : u_T := fun k => match k with
  | _ => ("", "", "", false)
def tyX1 : Nat → FieldType := fun k => match k with
  | _ => .int
theorem nmX1 : ∀ a, a < 0 → ∀ b, b < 0 → a ≠ b → (TX1 a).2.1 ≠ (TX1 b).2.1 := by decide +kernel
theorem tyX1_ok : ∀ k, k < 0 → parseFieldDescriptor (TX1 k).2.2.1 = some (tyX1 k) := by decide +kernel
abbrev cX1_isAhead : ByteArray := prog_3_method_2_code
def yX1_isAhead : MethodName := ⟨RX1, "isAhead", "(II)Z"⟩
abbrev cX1_count : ByteArray := prog_3_method_3_code
def yX1_count : MethodName := ⟨RX1, "count", "(LBelowhouse$Order;)I"⟩
abbrev cX1_countOfSize : ByteArray := prog_3_method_4_code
def yX1_countOfSize : MethodName := ⟨RX1, "countOfSize", "(LBelowhouse$Order;I)I"⟩
abbrev cX1_countAhead : ByteArray := prog_3_method_5_code
def yX1_countAhead : MethodName := ⟨RX1, "countAhead", "(LBelowhouse$Order;I)I"⟩
abbrev cX1_countShared : ByteArray := prog_3_method_6_code
def yX1_countShared : MethodName := ⟨RX1, "countShared", "(LBelowhouse$Order;LBelowhouse$Order;)I"⟩
abbrev cX1_findAt : ByteArray := prog_3_method_7_code
def yX1_findAt : MethodName := ⟨RX1, "findAt", "(LBelowhouse$Order;I)I"⟩
abbrev cX1_lastAhead : ByteArray := prog_3_method_8_code
def yX1_lastAhead : MethodName := ⟨RX1, "lastAhead", "(LBelowhouse$Order;I)I"⟩
abbrev cX1_firstBehind : ByteArray := prog_3_method_9_code
def yX1_firstBehind : MethodName := ⟨RX1, "firstBehind", "(LBelowhouse$Order;I)I"⟩
def RX2 : String := "Belowhouse$Numbers"
def TX2 : u_T := fun k => match k with
  | _ => ("Belowhouse$Numbers", "ofHigh", "[I", true)
def tyX2 : Nat → FieldType := fun k => match k with
  | _ => .array .int
theorem nmX2 : ∀ a, a < 1 → ∀ b, b < 1 → a ≠ b → (TX2 a).2.1 ≠ (TX2 b).2.1 := by decide +kernel
theorem tyX2_ok : ∀ k, k < 1 → parseFieldDescriptor (TX2 k).2.2.1 = some (tyX2 k) := by decide +kernel
abbrev cX2_init : ByteArray := prog_4_method_1_code
def yX2_init : MethodName := ⟨RX2, "<init>", "()V"⟩
abbrev cX2_between : ByteArray := prog_4_method_2_code
def yX2_between : MethodName := ⟨RX2, "between", "(LBelowhouse$Order;II)I"⟩
abbrev cX2_undoSums : ByteArray := prog_4_method_3_code
def yX2_undoSums : MethodName := ⟨RX2, "undoSums", "(LBelowhouse$Order;I)I"⟩
abbrev cX2_fillFrom : ByteArray := prog_4_method_4_code
def yX2_fillFrom : MethodName := ⟨RX2, "fillFrom", "(LBelowhouse$Order;I)V"⟩
abbrev cX2_sumBelow : ByteArray := prog_4_method_5_code
def yX2_sumBelow : MethodName := ⟨RX2, "sumBelow", "(LBelowhouse$Order;I)I"⟩
abbrev cX2_vanishFrom : ByteArray := prog_4_method_6_code
def yX2_vanishFrom : MethodName := ⟨RX2, "vanishFrom", "(LBelowhouse$Order;I)Z"⟩
def RX3 : String := "Belowhouse$Order"
def TX3 : u_T := fun k => match k with
  | 0 => ("Belowhouse$Order", "count", "I", false)
  | 1 => ("Belowhouse$Order", "below", "[I", true)
  | _ => ("Belowhouse$Order", "values", "[I", true)
def tyX3 : Nat → FieldType := fun k => match k with
  | 0 => .int
  | 1 => .array .int
  | _ => .array .int
theorem nmX3 : ∀ a, a < 3 → ∀ b, b < 3 → a ≠ b → (TX3 a).2.1 ≠ (TX3 b).2.1 := by decide +kernel
theorem tyX3_ok : ∀ k, k < 3 → parseFieldDescriptor (TX3 k).2.2.1 = some (tyX3 k) := by decide +kernel
abbrev cX3_init : ByteArray := prog_5_method_1_code
def yX3_init : MethodName := ⟨RX3, "<init>", "()V"⟩
abbrev cX3_all : ByteArray := prog_5_method_2_code
def yX3_all : MethodName := ⟨RX3, "all", "()I"⟩
abbrev cX3_setLimit : ByteArray := prog_5_method_3_code
def yX3_setLimit : MethodName := ⟨RX3, "setLimit", "()I"⟩
abbrev cX3_hasThing : ByteArray := prog_5_method_4_code
def yX3_hasThing : MethodName := ⟨RX3, "hasThing", "(I)Z"⟩
abbrev cX3_clearTo : ByteArray := prog_5_method_5_code
def yX3_clearTo : MethodName := ⟨RX3, "clearTo", "(I)V"⟩
abbrev cX3_lineUp : ByteArray := prog_5_method_6_code
def yX3_lineUp : MethodName := ⟨RX3, "lineUp", "()V"⟩
abbrev cX3_standAs : ByteArray := prog_5_method_7_code
def yX3_standAs : MethodName := ⟨RX3, "standAs", "([I)V"⟩
abbrev cX3_append : ByteArray := prog_5_method_8_code
def yX3_append : MethodName := ⟨RX3, "append", "(I)I"⟩
abbrev cX3_retain : ByteArray := prog_5_method_9_code
def yX3_retain : MethodName := ⟨RX3, "retain", "(I)V"⟩
abbrev cX3_squeezed : ByteArray := prog_5_method_10_code
def yX3_squeezed : MethodName := ⟨RX3, "squeezed", "(II)I"⟩
abbrev cX3_link : ByteArray := prog_5_method_11_code
def yX3_link : MethodName := ⟨RX3, "link", "(II)I"⟩
abbrev cX3_cut : ByteArray := prog_5_method_12_code
def yX3_cut : MethodName := ⟨RX3, "cut", "(II)V"⟩
abbrev cX3_become : ByteArray := prog_5_method_13_code
def yX3_become : MethodName := ⟨RX3, "become", "(LBelowhouse$Order;)V"⟩
abbrev cX3_becomeTurned : ByteArray := prog_5_method_14_code
def yX3_becomeTurned : MethodName := ⟨RX3, "becomeTurned", "(LBelowhouse$Order;)V"⟩
abbrev cX3_becomeJoined : ByteArray := prog_5_method_15_code
def yX3_becomeJoined : MethodName := ⟨RX3, "becomeJoined", "(LBelowhouse$Order;LBelowhouse$Order;Z)V"⟩
abbrev cX3_becomeCommon : ByteArray := prog_5_method_16_code
def yX3_becomeCommon : MethodName := ⟨RX3, "becomeCommon", "(LBelowhouse$Order;LBelowhouse$Order;)V"⟩
abbrev cX3_isBelow : ByteArray := prog_5_method_17_code
def yX3_isBelow : MethodName := ⟨RX3, "isBelow", "(II)Z"⟩
abbrev cX3_isNextBelow : ByteArray := prog_5_method_18_code
def yX3_isNextBelow : MethodName := ⟨RX3, "isNextBelow", "(II)Z"⟩
abbrev cX3_aboveOf : ByteArray := prog_5_method_19_code
def yX3_aboveOf : MethodName := ⟨RX3, "aboveOf", "(I)I"⟩
abbrev cX3_pairCount : ByteArray := prog_5_method_20_code
def yX3_pairCount : MethodName := ⟨RX3, "pairCount", "()I"⟩
abbrev cX3_nextCount : ByteArray := prog_5_method_21_code
def yX3_nextCount : MethodName := ⟨RX3, "nextCount", "()I"⟩
abbrev cX3_hasPairsOf : ByteArray := prog_5_method_22_code
def yX3_hasPairsOf : MethodName := ⟨RX3, "hasPairsOf", "(LBelowhouse$Order;)Z"⟩
abbrev cX3_isInLine : ByteArray := prog_5_method_23_code
def yX3_isInLine : MethodName := ⟨RX3, "isInLine", "(I)Z"⟩
abbrev cX3_isUnordered : ByteArray := prog_5_method_24_code
def yX3_isUnordered : MethodName := ⟨RX3, "isUnordered", "(I)Z"⟩
abbrev cX3_allBelow : ByteArray := prog_5_method_25_code
def yX3_allBelow : MethodName := ⟨RX3, "allBelow", "(I)I"⟩
abbrev cX3_greatestOf : ByteArray := prog_5_method_26_code
def yX3_greatestOf : MethodName := ⟨RX3, "greatestOf", "(I)I"⟩
abbrev cX3_leastOf : ByteArray := prog_5_method_27_code
def yX3_leastOf : MethodName := ⟨RX3, "leastOf", "(I)I"⟩
abbrev cX3_isClosedBelow : ByteArray := prog_5_method_28_code
def yX3_isClosedBelow : MethodName := ⟨RX3, "isClosedBelow", "(I)Z"⟩
abbrev cX3_filledUp : ByteArray := prog_5_method_29_code
def yX3_filledUp : MethodName := ⟨RX3, "filledUp", "(I)I"⟩
abbrev cX3_pared : ByteArray := prog_5_method_30_code
def yX3_pared : MethodName := ⟨RX3, "pared", "(I)I"⟩
abbrev cX3_canCome : ByteArray := prog_5_method_31_code
def yX3_canCome : MethodName := ⟨RX3, "canCome", "(II)Z"⟩
abbrev cX3_sumUpTo : ByteArray := prog_5_method_32_code
def yX3_sumUpTo : MethodName := ⟨RX3, "sumUpTo", "(I)I"⟩
def RX4 : String := "Belowhouse$RowTable"
def TX4 : u_T := fun k => match k with
  | 0 => ("Belowhouse$RowTable", "waysTo", "[I", true)
  | 1 => ("Belowhouse$RowTable", "waysOn", "[I", true)
  | _ => ("Belowhouse$RowTable", "line", "[I", true)
def tyX4 : Nat → FieldType := fun k => match k with
  | 0 => .array .int
  | 1 => .array .int
  | _ => .array .int
theorem nmX4 : ∀ a, a < 3 → ∀ b, b < 3 → a ≠ b → (TX4 a).2.1 ≠ (TX4 b).2.1 := by decide +kernel
theorem tyX4_ok : ∀ k, k < 3 → parseFieldDescriptor (TX4 k).2.2.1 = some (tyX4 k) := by decide +kernel
abbrev cX4_init : ByteArray := prog_6_method_1_code
def yX4_init : MethodName := ⟨RX4, "<init>", "()V"⟩
abbrev cX4_count : ByteArray := prog_6_method_2_code
def yX4_count : MethodName := ⟨RX4, "count", "(LBelowhouse$Order;)I"⟩
abbrev cX4_passOn : ByteArray := prog_6_method_3_code
def yX4_passOn : MethodName := ⟨RX4, "passOn", "(LBelowhouse$Order;I)V"⟩
abbrev cX4_fill : ByteArray := prog_6_method_4_code
def yX4_fill : MethodName := ⟨RX4, "fill", "(LBelowhouse$Order;)I"⟩
abbrev cX4_isReached : ByteArray := prog_6_method_5_code
def yX4_isReached : MethodName := ⟨RX4, "isReached", "(I)Z"⟩
abbrev cX4_waysByLesser : ByteArray := prog_6_method_6_code
def yX4_waysByLesser : MethodName := ⟨RX4, "waysByLesser", "(LBelowhouse$Order;II)I"⟩
abbrev cX4_layOut : ByteArray := prog_6_method_7_code
def yX4_layOut : MethodName := ⟨RX4, "layOut", "(LBelowhouse$Order;I)V"⟩
abbrev cX4_thingFor : ByteArray := prog_6_method_8_code
def yX4_thingFor : MethodName := ⟨RX4, "thingFor", "(LBelowhouse$Order;II)I"⟩
abbrev cX4_lineAsNumber : ByteArray := prog_6_method_9_code
def yX4_lineAsNumber : MethodName := ⟨RX4, "lineAsNumber", "(LBelowhouse$Order;)I"⟩
abbrev cX4_findPlace : ByteArray := prog_6_method_10_code
def yX4_findPlace : MethodName := ⟨RX4, "findPlace", "(LBelowhouse$Order;I)I"⟩
abbrev cX4_withoutLast : ByteArray := prog_6_method_11_code
def yX4_withoutLast : MethodName := ⟨RX4, "withoutLast", "(II)I"⟩
abbrev cX4_waysThrough : ByteArray := prog_6_method_12_code
def yX4_waysThrough : MethodName := ⟨RX4, "waysThrough", "(LBelowhouse$Order;II)I"⟩
abbrev cX4_countAhead : ByteArray := prog_6_method_13_code
def yX4_countAhead : MethodName := ⟨RX4, "countAhead", "(LBelowhouse$Order;II)I"⟩
abbrev cX4_countAtPlace : ByteArray := prog_6_method_14_code
def yX4_countAtPlace : MethodName := ⟨RX4, "countAtPlace", "(LBelowhouse$Order;II)I"⟩
abbrev cX4_sumOfPlaces : ByteArray := prog_6_method_15_code
def yX4_sumOfPlaces : MethodName := ⟨RX4, "sumOfPlaces", "(LBelowhouse$Order;I)I"⟩
def RX5 : String := "Belowhouse$Theorem"
def TX5 : u_T := fun k => match k with
  | 0 => ("Belowhouse$Theorem", "tried", "LBelowhouse$Order;", true)
  | 1 => ("Belowhouse$Theorem", "turned", "LBelowhouse$Order;", true)
  | 2 => ("Belowhouse$Theorem", "table", "LBelowhouse$RowTable;", true)
  | 3 => ("Belowhouse$Theorem", "triedTable", "LBelowhouse$RowTable;", true)
  | 4 => ("Belowhouse$Theorem", "chains", "LBelowhouse$Chains;", true)
  | 5 => ("Belowhouse$Theorem", "numbers", "LBelowhouse$Numbers;", true)
  | _ => ("Belowhouse$Theorem", "sizes", "[I", true)
def tyX5 : Nat → FieldType := fun k => match k with
  | 0 => .object "Belowhouse$Order"
  | 1 => .object "Belowhouse$Order"
  | 2 => .object "Belowhouse$RowTable"
  | 3 => .object "Belowhouse$RowTable"
  | 4 => .object "Belowhouse$Chains"
  | 5 => .object "Belowhouse$Numbers"
  | _ => .array .int
theorem nmX5 : ∀ a, a < 7 → ∀ b, b < 7 → a ≠ b → (TX5 a).2.1 ≠ (TX5 b).2.1 := by decide +kernel
theorem tyX5_ok : ∀ k, k < 7 → parseFieldDescriptor (TX5 k).2.2.1 = some (tyX5 k) := by decide +kernel
abbrev cX5_init : ByteArray := prog_7_method_1_code
def yX5_init : MethodName := ⟨RX5, "<init>", "()V"⟩
abbrev cX5_holdsFor : ByteArray := prog_7_method_2_code
def yX5_holdsFor : MethodName := ⟨RX5, "holdsFor", "(LBelowhouse$Order;)Z"⟩
abbrev cX5_holdsForBoth : ByteArray := prog_7_method_3_code
def yX5_holdsForBoth : MethodName := ⟨RX5, "holdsForBoth", "(LBelowhouse$Order;LBelowhouse$Order;)Z"⟩
abbrev cX5_isOrdered : ByteArray := prog_7_method_4_code
def yX5_isOrdered : MethodName := ⟨RX5, "isOrdered", "(LBelowhouse$Order;)Z"⟩
abbrev cX5_linksLeast : ByteArray := prog_7_method_5_code
def yX5_linksLeast : MethodName := ⟨RX5, "linksLeast", "(LBelowhouse$Order;)Z"⟩
abbrev cX5_linksLeast_ : ByteArray := prog_7_method_6_code
def yX5_linksLeast_ : MethodName := ⟨RX5, "linksLeast", "(LBelowhouse$Order;II)Z"⟩
abbrev cX5_looseComesBack : ByteArray := prog_7_method_7_code
def yX5_looseComesBack : MethodName := ⟨RX5, "looseComesBack", "(LBelowhouse$Order;)Z"⟩
abbrev cX5_growsByGreatest : ByteArray := prog_7_method_8_code
def yX5_growsByGreatest : MethodName := ⟨RX5, "growsByGreatest", "(LBelowhouse$Order;)Z"⟩
abbrev cX5_rowsTellPairs : ByteArray := prog_7_method_9_code
def yX5_rowsTellPairs : MethodName := ⟨RX5, "rowsTellPairs", "(LBelowhouse$Order;)Z"⟩
abbrev cX5_rowsTellPair : ByteArray := prog_7_method_10_code
def yX5_rowsTellPair : MethodName := ⟨RX5, "rowsTellPair", "(LBelowhouse$Order;III)Z"⟩
abbrev cX5_coversFit : ByteArray := prog_7_method_11_code
def yX5_coversFit : MethodName := ⟨RX5, "coversFit", "(LBelowhouse$Order;)Z"⟩
abbrev cX5_closedSetsFit : ByteArray := prog_7_method_12_code
def yX5_closedSetsFit : MethodName := ⟨RX5, "closedSetsFit", "(LBelowhouse$Order;)Z"⟩
abbrev cX5_closedSetFits : ByteArray := prog_7_method_13_code
def yX5_closedSetFits : MethodName := ⟨RX5, "closedSetFits", "(LBelowhouse$Order;I)Z"⟩
abbrev cX5_staysClosedBy : ByteArray := prog_7_method_14_code
def yX5_staysClosedBy : MethodName := ⟨RX5, "staysClosedBy", "(LBelowhouse$Order;I)Z"⟩
abbrev cX5_sumsAreUndone : ByteArray := prog_7_method_15_code
def yX5_sumsAreUndone : MethodName := ⟨RX5, "sumsAreUndone", "(LBelowhouse$Order;)Z"⟩
abbrev cX5_turnsRound : ByteArray := prog_7_method_16_code
def yX5_turnsRound : MethodName := ⟨RX5, "turnsRound", "(LBelowhouse$Order;)Z"⟩
abbrev cX5_sizesTurn : ByteArray := prog_7_method_17_code
def yX5_sizesTurn : MethodName := ⟨RX5, "sizesTurn", "(LBelowhouse$Order;)Z"⟩
abbrev cX5_besideFits : ByteArray := prog_7_method_18_code
def yX5_besideFits : MethodName := ⟨RX5, "besideFits", "(LBelowhouse$Order;LBelowhouse$Order;)Z"⟩
abbrev cX5_aboveFits : ByteArray := prog_7_method_19_code
def yX5_aboveFits : MethodName := ⟨RX5, "aboveFits", "(LBelowhouse$Order;LBelowhouse$Order;)Z"⟩
abbrev cX5_longestOf : ByteArray := prog_7_method_20_code
def yX5_longestOf : MethodName := ⟨RX5, "longestOf", "(LBelowhouse$Order;)I"⟩
abbrev cX5_waysToChoose : ByteArray := prog_7_method_21_code
def yX5_waysToChoose : MethodName := ⟨RX5, "waysToChoose", "(II)I"⟩
def RX6 : String := "Belowhouse"
def TX6 : u_T := fun k => match k with
  | 0 => ("Belowhouse", "orders", "[LBelowhouse$Order;", true)
  | 1 => ("Belowhouse", "made", "LBelowhouse$Order;", true)
  | 2 => ("Belowhouse", "chains", "LBelowhouse$Chains;", true)
  | 3 => ("Belowhouse", "table", "LBelowhouse$RowTable;", true)
  | 4 => ("Belowhouse", "numbers", "LBelowhouse$Numbers;", true)
  | _ => ("Belowhouse", "theorem", "LBelowhouse$Theorem;", true)
def tyX6 : Nat → FieldType := fun k => match k with
  | 0 => .array (.object "Belowhouse$Order")
  | 1 => .object "Belowhouse$Order"
  | 2 => .object "Belowhouse$Chains"
  | 3 => .object "Belowhouse$RowTable"
  | 4 => .object "Belowhouse$Numbers"
  | _ => .object "Belowhouse$Theorem"
theorem nmX6 : ∀ a, a < 6 → ∀ b, b < 6 → a ≠ b → (TX6 a).2.1 ≠ (TX6 b).2.1 := by decide +kernel
theorem tyX6_ok : ∀ k, k < 6 → parseFieldDescriptor (TX6 k).2.2.1 = some (tyX6 k) := by decide +kernel
abbrev cX6_init : ByteArray := prog_1_method_1_code
def yX6_init : MethodName := ⟨RX6, "<init>", "()V"⟩
abbrev cX6_lay : ByteArray := prog_1_method_2_code
def yX6_lay : MethodName := ⟨RX6, "lay", "(II)I"⟩
abbrev cX6_chain : ByteArray := prog_1_method_3_code
def yX6_chain : MethodName := ⟨RX6, "chain", "(II)I"⟩
abbrev cX6_add : ByteArray := prog_1_method_4_code
def yX6_add : MethodName := ⟨RX6, "add", "(II)I"⟩
abbrev cX6_drop : ByteArray := prog_1_method_5_code
def yX6_drop : MethodName := ⟨RX6, "drop", "(II)I"⟩
abbrev cX6_keep : ByteArray := prog_1_method_6_code
def yX6_keep : MethodName := ⟨RX6, "keep", "(II)I"⟩
abbrev cX6_setValue : ByteArray := prog_1_method_7_code
def yX6_setValue : MethodName := ⟨RX6, "setValue", "(III)I"⟩
abbrev cX6_put : ByteArray := prog_1_method_8_code
def yX6_put : MethodName := ⟨RX6, "put", "(III)I"⟩
abbrev cX6_loose : ByteArray := prog_1_method_9_code
def yX6_loose : MethodName := ⟨RX6, "loose", "(III)I"⟩
abbrev cX6_straighten : ByteArray := prog_1_method_10_code
def yX6_straighten : MethodName := ⟨RX6, "straighten", "(II)I"⟩
abbrev cX6_turn : ByteArray := prog_1_method_11_code
def yX6_turn : MethodName := ⟨RX6, "turn", "(I)I"⟩
abbrev cX6_copy : ByteArray := prog_1_method_12_code
def yX6_copy : MethodName := ⟨RX6, "copy", "(II)I"⟩
abbrev cX6_beside : ByteArray := prog_1_method_13_code
def yX6_beside : MethodName := ⟨RX6, "beside", "(III)I"⟩
abbrev cX6_above : ByteArray := prog_1_method_14_code
def yX6_above : MethodName := ⟨RX6, "above", "(III)I"⟩
abbrev cX6_meet : ByteArray := prog_1_method_15_code
def yX6_meet : MethodName := ⟨RX6, "meet", "(III)I"⟩
abbrev cX6_things : ByteArray := prog_1_method_16_code
def yX6_things : MethodName := ⟨RX6, "things", "(I)I"⟩
abbrev cX6_pairs : ByteArray := prog_1_method_17_code
def yX6_pairs : MethodName := ⟨RX6, "pairs", "(I)I"⟩
abbrev cX6_nexts : ByteArray := prog_1_method_18_code
def yX6_nexts : MethodName := ⟨RX6, "nexts", "(I)I"⟩
abbrev cX6_sign : ByteArray := prog_1_method_19_code
def yX6_sign : MethodName := ⟨RX6, "sign", "(III)C"⟩
abbrev cX6_isNext : ByteArray := prog_1_method_20_code
def yX6_isNext : MethodName := ⟨RX6, "isNext", "(III)Z"⟩
abbrev cX6_lower : ByteArray := prog_1_method_21_code
def yX6_lower : MethodName := ⟨RX6, "lower", "(II)I"⟩
abbrev cX6_upper : ByteArray := prog_1_method_22_code
def yX6_upper : MethodName := ⟨RX6, "upper", "(II)I"⟩
abbrev cX6_ends : ByteArray := prog_1_method_23_code
def yX6_ends : MethodName := ⟨RX6, "ends", "(IZ)I"⟩
abbrev cX6_value : ByteArray := prog_1_method_24_code
def yX6_value : MethodName := ⟨RX6, "value", "(II)I"⟩
abbrev cX6_isSame : ByteArray := prog_1_method_25_code
def yX6_isSame : MethodName := ⟨RX6, "isSame", "(II)Z"⟩
abbrev cX6_isChain : ByteArray := prog_1_method_26_code
def yX6_isChain : MethodName := ⟨RX6, "isChain", "(II)Z"⟩
abbrev cX6_isApart : ByteArray := prog_1_method_27_code
def yX6_isApart : MethodName := ⟨RX6, "isApart", "(II)Z"⟩
abbrev cX6_level : ByteArray := prog_1_method_28_code
def yX6_level : MethodName := ⟨RX6, "level", "(II)I"⟩
abbrev cX6_longest : ByteArray := prog_1_method_29_code
def yX6_longest : MethodName := ⟨RX6, "longest", "(I)I"⟩
abbrev cX6_widest : ByteArray := prog_1_method_30_code
def yX6_widest : MethodName := ⟨RX6, "widest", "(I)I"⟩
abbrev cX6_fewestChains : ByteArray := prog_1_method_31_code
def yX6_fewestChains : MethodName := ⟨RX6, "fewestChains", "(I)I"⟩
abbrev cX6_fewestAparts : ByteArray := prog_1_method_32_code
def yX6_fewestAparts : MethodName := ⟨RX6, "fewestAparts", "(I)I"⟩
abbrev cX6_aparts : ByteArray := prog_1_method_33_code
def yX6_aparts : MethodName := ⟨RX6, "aparts", "(I)I"⟩
abbrev cX6_sets : ByteArray := prog_1_method_34_code
def yX6_sets : MethodName := ⟨RX6, "sets", "(I)I"⟩
abbrev cX6_setsOf : ByteArray := prog_1_method_35_code
def yX6_setsOf : MethodName := ⟨RX6, "setsOf", "(II)I"⟩
abbrev cX6_setAt : ByteArray := prog_1_method_36_code
def yX6_setAt : MethodName := ⟨RX6, "setAt", "(II)I"⟩
abbrev cX6_placeOf : ByteArray := prog_1_method_37_code
def yX6_placeOf : MethodName := ⟨RX6, "placeOf", "(II)I"⟩
abbrev cX6_near : ByteArray := prog_1_method_38_code
def yX6_near : MethodName := ⟨RX6, "near", "(IIC)I"⟩
abbrev cX6_closed : ByteArray := prog_1_method_39_code
def yX6_closed : MethodName := ⟨RX6, "closed", "(II)I"⟩
abbrev cX6_inner : ByteArray := prog_1_method_40_code
def yX6_inner : MethodName := ⟨RX6, "inner", "(II)I"⟩
abbrev cX6_tops : ByteArray := prog_1_method_41_code
def yX6_tops : MethodName := ⟨RX6, "tops", "(II)I"⟩
abbrev cX6_shared : ByteArray := prog_1_method_42_code
def yX6_shared : MethodName := ⟨RX6, "shared", "(II)I"⟩
abbrev cX6_rows : ByteArray := prog_1_method_43_code
def yX6_rows : MethodName := ⟨RX6, "rows", "(I)I"⟩
abbrev cX6_rowAt : ByteArray := prog_1_method_44_code
def yX6_rowAt : MethodName := ⟨RX6, "rowAt", "(II)I"⟩
abbrev cX6_rowPlace : ByteArray := prog_1_method_45_code
def yX6_rowPlace : MethodName := ⟨RX6, "rowPlace", "(II)I"⟩
abbrev cX6_nextRow : ByteArray := prog_1_method_46_code
def yX6_nextRow : MethodName := ⟨RX6, "nextRow", "(II)I"⟩
abbrev cX6_rowsWith : ByteArray := prog_1_method_47_code
def yX6_rowsWith : MethodName := ⟨RX6, "rowsWith", "(III)I"⟩
abbrev cX6_rowsAt : ByteArray := prog_1_method_48_code
def yX6_rowsAt : MethodName := ⟨RX6, "rowsAt", "(III)I"⟩
abbrev cX6_meanPlace : ByteArray := prog_1_method_49_code
def yX6_meanPlace : MethodName := ⟨RX6, "meanPlace", "(II)D"⟩
abbrev cX6_share : ByteArray := prog_1_method_50_code
def yX6_share : MethodName := ⟨RX6, "share", "(III)F"⟩
abbrev cX6_sum : ByteArray := prog_1_method_51_code
def yX6_sum : MethodName := ⟨RX6, "sum", "(II)I"⟩
abbrev cX6_number : ByteArray := prog_1_method_52_code
def yX6_number : MethodName := ⟨RX6, "number", "(III)I"⟩
abbrev cX6_undone : ByteArray := prog_1_method_53_code
def yX6_undone : MethodName := ⟨RX6, "undone", "(II)I"⟩
abbrev cX6_isSound : ByteArray := prog_1_method_54_code
def yX6_isSound : MethodName := ⟨RX6, "isSound", "(I)Z"⟩
abbrev cX6_areSound : ByteArray := prog_1_method_55_code
def yX6_areSound : MethodName := ⟨RX6, "areSound", "(II)Z"⟩
abbrev cX6_checksum : ByteArray := prog_1_method_56_code
def yX6_checksum : MethodName := ⟨RX6, "checksum", "()J"⟩
abbrev cX6_mixedIn : ByteArray := prog_1_method_57_code
def yX6_mixedIn : MethodName := ⟨RX6, "mixedIn", "(JLBelowhouse$Order;)J"⟩
abbrev cX6_orderAt : ByteArray := prog_1_method_58_code
def yX6_orderAt : MethodName := ⟨RX6, "orderAt", "(I)LBelowhouse$Order;"⟩
abbrev cX6_orderWith : ByteArray := prog_1_method_59_code
def yX6_orderWith : MethodName := ⟨RX6, "orderWith", "(II)LBelowhouse$Order;"⟩
abbrev cX6_orderWithBoth : ByteArray := prog_1_method_60_code
def yX6_orderWithBoth : MethodName := ⟨RX6, "orderWithBoth", "(III)LBelowhouse$Order;"⟩
abbrev cX6_orderWithSet : ByteArray := prog_1_method_61_code
def yX6_orderWithSet : MethodName := ⟨RX6, "orderWithSet", "(II)LBelowhouse$Order;"⟩
abbrev cX6_refuseOddMany : ByteArray := prog_1_method_62_code
def yX6_refuseOddMany : MethodName := ⟨RX6, "refuseOddMany", "(I)V"⟩
abbrev cX6_refuseOddValue : ByteArray := prog_1_method_63_code
def yX6_refuseOddValue : MethodName := ⟨RX6, "refuseOddValue", "(I)V"⟩
abbrev cX6_layOutRow : ByteArray := prog_1_method_64_code
def yX6_layOutRow : MethodName := ⟨RX6, "layOutRow", "(LBelowhouse$Order;I)V"⟩
abbrev cX6_joinInto : ByteArray := prog_1_method_65_code
def yX6_joinInto : MethodName := ⟨RX6, "joinInto", "(IIIZ)LBelowhouse$Order;"⟩
abbrev cX6_atLeastOne : ByteArray := prog_1_method_66_code
def yX6_atLeastOne : MethodName := ⟨RX6, "atLeastOne", "(I)I"⟩
abbrev cX6_has : ByteArray := prog_1_method_67_code
def yX6_has : MethodName := ⟨RX6, "has", "(II)Z"⟩
abbrev cX6_isWithin : ByteArray := prog_1_method_68_code
def yX6_isWithin : MethodName := ⟨RX6, "isWithin", "(II)Z"⟩
def RX7 : String := "BelowhouseModel"
def TX7 : u_T := fun k => match k with
  | 0 => ("BelowhouseModel", "things", "[I", true)
  | 1 => ("BelowhouseModel", "values", "[[I", true)
  | 2 => ("BelowhouseModel", "below", "[[[Z", true)
  | 3 => ("BelowhouseModel", "code", "I", false)
  | 4 => ("BelowhouseModel", "ways", "[I", true)
  | 5 => ("BelowhouseModel", "parts", "[I", true)
  | 6 => ("BelowhouseModel", "line", "[I", true)
  | _ => ("BelowhouseModel", "lows", "[I", true)
def tyX7 : Nat → FieldType := fun k => match k with
  | 0 => .array .int
  | 1 => .array (.array .int)
  | 2 => .array (.array (.array .boolean))
  | 3 => .int
  | 4 => .array .int
  | 5 => .array .int
  | 6 => .array .int
  | _ => .array .int
theorem nmX7 : ∀ a, a < 8 → ∀ b, b < 8 → a ≠ b → (TX7 a).2.1 ≠ (TX7 b).2.1 := by decide +kernel
theorem tyX7_ok : ∀ k, k < 8 → parseFieldDescriptor (TX7 k).2.2.1 = some (tyX7 k) := by decide +kernel
abbrev cX7_init : ByteArray := prog_9_method_1_code
def yX7_init : MethodName := ⟨RX7, "<init>", "()V"⟩
abbrev cX7_thrown : ByteArray := prog_9_method_2_code
def yX7_thrown : MethodName := ⟨RX7, "thrown", "()I"⟩
abbrev cX7_lets : ByteArray := prog_9_method_3_code
def yX7_lets : MethodName := ⟨RX7, "lets", "(ZI)Z"⟩
abbrev cX7_in : ByteArray := prog_9_method_4_code
def yX7_in : MethodName := ⟨RX7, "in", "(III)Z"⟩
abbrev cX7_isOrder : ByteArray := prog_9_method_5_code
def yX7_isOrder : MethodName := ⟨RX7, "isOrder", "(I)Z"⟩
abbrev cX7_isThing : ByteArray := prog_9_method_6_code
def yX7_isThing : MethodName := ⟨RX7, "isThing", "(II)Z"⟩
abbrev cX7_isSet : ByteArray := prog_9_method_7_code
def yX7_isSet : MethodName := ⟨RX7, "isSet", "(II)Z"⟩
abbrev cX7_has : ByteArray := prog_9_method_8_code
def yX7_has : MethodName := ⟨RX7, "has", "(II)Z"⟩
abbrev cX7_manyIn : ByteArray := prog_9_method_9_code
def yX7_manyIn : MethodName := ⟨RX7, "manyIn", "(I)I"⟩
abbrev cX7_empty : ByteArray := prog_9_method_10_code
def yX7_empty : MethodName := ⟨RX7, "empty", "(II)V"⟩
abbrev cX7_becomes : ByteArray := prog_9_method_11_code
def yX7_becomes : MethodName := ⟨RX7, "becomes", "(II)V"⟩
abbrev cX7_pairsOf : ByteArray := prog_9_method_12_code
def yX7_pairsOf : MethodName := ⟨RX7, "pairsOf", "(I)I"⟩
abbrev cX7_lay : ByteArray := prog_9_method_13_code
def yX7_lay : MethodName := ⟨RX7, "lay", "(II)I"⟩
abbrev cX7_chain : ByteArray := prog_9_method_14_code
def yX7_chain : MethodName := ⟨RX7, "chain", "(II)I"⟩
abbrev cX7_add : ByteArray := prog_9_method_15_code
def yX7_add : MethodName := ⟨RX7, "add", "(II)I"⟩
abbrev cX7_stay : ByteArray := prog_9_method_16_code
def yX7_stay : MethodName := ⟨RX7, "stay", "(II)V"⟩
abbrev cX7_drop : ByteArray := prog_9_method_17_code
def yX7_drop : MethodName := ⟨RX7, "drop", "(II)I"⟩
abbrev cX7_keep : ByteArray := prog_9_method_18_code
def yX7_keep : MethodName := ⟨RX7, "keep", "(II)I"⟩
abbrev cX7_setValue : ByteArray := prog_9_method_19_code
def yX7_setValue : MethodName := ⟨RX7, "setValue", "(III)I"⟩
abbrev cX7_isUpTo : ByteArray := prog_9_method_20_code
def yX7_isUpTo : MethodName := ⟨RX7, "isUpTo", "(III)Z"⟩
abbrev cX7_put : ByteArray := prog_9_method_21_code
def yX7_put : MethodName := ⟨RX7, "put", "(III)I"⟩
abbrev cX7_next : ByteArray := prog_9_method_22_code
def yX7_next : MethodName := ⟨RX7, "next", "(III)Z"⟩
abbrev cX7_loose : ByteArray := prog_9_method_23_code
def yX7_loose : MethodName := ⟨RX7, "loose", "(III)I"⟩
abbrev cX7_straighten : ByteArray := prog_9_method_24_code
def yX7_straighten : MethodName := ⟨RX7, "straighten", "(II)I"⟩
abbrev cX7_turn : ByteArray := prog_9_method_25_code
def yX7_turn : MethodName := ⟨RX7, "turn", "(I)I"⟩
abbrev cX7_copy : ByteArray := prog_9_method_26_code
def yX7_copy : MethodName := ⟨RX7, "copy", "(II)I"⟩
abbrev cX7_joins : ByteArray := prog_9_method_27_code
def yX7_joins : MethodName := ⟨RX7, "joins", "(IIZ)V"⟩
abbrev cX7_canJoin : ByteArray := prog_9_method_28_code
def yX7_canJoin : MethodName := ⟨RX7, "canJoin", "(III)Z"⟩
abbrev cX7_beside : ByteArray := prog_9_method_29_code
def yX7_beside : MethodName := ⟨RX7, "beside", "(III)I"⟩
abbrev cX7_above : ByteArray := prog_9_method_30_code
def yX7_above : MethodName := ⟨RX7, "above", "(III)I"⟩
abbrev cX7_meet : ByteArray := prog_9_method_31_code
def yX7_meet : MethodName := ⟨RX7, "meet", "(III)I"⟩
abbrev cX7_things : ByteArray := prog_9_method_32_code
def yX7_things : MethodName := ⟨RX7, "things", "(I)I"⟩
abbrev cX7_pairs : ByteArray := prog_9_method_33_code
def yX7_pairs : MethodName := ⟨RX7, "pairs", "(I)I"⟩
abbrev cX7_nexts : ByteArray := prog_9_method_34_code
def yX7_nexts : MethodName := ⟨RX7, "nexts", "(I)I"⟩
abbrev cX7_sign : ByteArray := prog_9_method_35_code
def yX7_sign : MethodName := ⟨RX7, "sign", "(III)C"⟩
abbrev cX7_isNext : ByteArray := prog_9_method_36_code
def yX7_isNext : MethodName := ⟨RX7, "isNext", "(III)Z"⟩
abbrev cX7_lowerOf : ByteArray := prog_9_method_37_code
def yX7_lowerOf : MethodName := ⟨RX7, "lowerOf", "(II)I"⟩
abbrev cX7_upperOf : ByteArray := prog_9_method_38_code
def yX7_upperOf : MethodName := ⟨RX7, "upperOf", "(II)I"⟩
abbrev cX7_lower : ByteArray := prog_9_method_39_code
def yX7_lower : MethodName := ⟨RX7, "lower", "(II)I"⟩
abbrev cX7_upper : ByteArray := prog_9_method_40_code
def yX7_upper : MethodName := ⟨RX7, "upper", "(II)I"⟩
abbrev cX7_ends : ByteArray := prog_9_method_41_code
def yX7_ends : MethodName := ⟨RX7, "ends", "(IZ)I"⟩
abbrev cX7_value : ByteArray := prog_9_method_42_code
def yX7_value : MethodName := ⟨RX7, "value", "(II)I"⟩
abbrev cX7_isSame : ByteArray := prog_9_method_43_code
def yX7_isSame : MethodName := ⟨RX7, "isSame", "(II)Z"⟩
abbrev cX7_isAll : ByteArray := prog_9_method_44_code
def yX7_isAll : MethodName := ⟨RX7, "isAll", "(IIZ)Z"⟩
abbrev cX7_isChain : ByteArray := prog_9_method_45_code
def yX7_isChain : MethodName := ⟨RX7, "isChain", "(II)Z"⟩
abbrev cX7_isApart : ByteArray := prog_9_method_46_code
def yX7_isApart : MethodName := ⟨RX7, "isApart", "(II)Z"⟩
abbrev cX7_levelOf : ByteArray := prog_9_method_47_code
def yX7_levelOf : MethodName := ⟨RX7, "levelOf", "(II)I"⟩
abbrev cX7_level : ByteArray := prog_9_method_48_code
def yX7_level : MethodName := ⟨RX7, "level", "(II)I"⟩
abbrev cX7_mostOf : ByteArray := prog_9_method_49_code
def yX7_mostOf : MethodName := ⟨RX7, "mostOf", "(IZ)I"⟩
abbrev cX7_longest : ByteArray := prog_9_method_50_code
def yX7_longest : MethodName := ⟨RX7, "longest", "(I)I"⟩
abbrev cX7_widest : ByteArray := prog_9_method_51_code
def yX7_widest : MethodName := ⟨RX7, "widest", "(I)I"⟩
abbrev cX7_fewestOf : ByteArray := prog_9_method_52_code
def yX7_fewestOf : MethodName := ⟨RX7, "fewestOf", "(IZ)I"⟩
abbrev cX7_fewestChains : ByteArray := prog_9_method_53_code
def yX7_fewestChains : MethodName := ⟨RX7, "fewestChains", "(I)I"⟩
abbrev cX7_fewestAparts : ByteArray := prog_9_method_54_code
def yX7_fewestAparts : MethodName := ⟨RX7, "fewestAparts", "(I)I"⟩
abbrev cX7_aparts : ByteArray := prog_9_method_55_code
def yX7_aparts : MethodName := ⟨RX7, "aparts", "(I)I"⟩
abbrev cX7_closure : ByteArray := prog_9_method_56_code
def yX7_closure : MethodName := ⟨RX7, "closure", "(II)I"⟩
abbrev cX7_isClosed : ByteArray := prog_9_method_57_code
def yX7_isClosed : MethodName := ⟨RX7, "isClosed", "(II)Z"⟩
abbrev cX7_isAhead : ByteArray := prog_9_method_58_code
def yX7_isAhead : MethodName := ⟨RX7, "isAhead", "(II)Z"⟩
abbrev cX7_placeIn : ByteArray := prog_9_method_59_code
def yX7_placeIn : MethodName := ⟨RX7, "placeIn", "(II)I"⟩
abbrev cX7_manyOf : ByteArray := prog_9_method_60_code
def yX7_manyOf : MethodName := ⟨RX7, "manyOf", "(II)I"⟩
abbrev cX7_sets : ByteArray := prog_9_method_61_code
def yX7_sets : MethodName := ⟨RX7, "sets", "(I)I"⟩
abbrev cX7_setsOf : ByteArray := prog_9_method_62_code
def yX7_setsOf : MethodName := ⟨RX7, "setsOf", "(II)I"⟩
abbrev cX7_setAt : ByteArray := prog_9_method_63_code
def yX7_setAt : MethodName := ⟨RX7, "setAt", "(II)I"⟩
abbrev cX7_placeOf : ByteArray := prog_9_method_64_code
def yX7_placeOf : MethodName := ⟨RX7, "placeOf", "(II)I"⟩
abbrev cX7_near : ByteArray := prog_9_method_65_code
def yX7_near : MethodName := ⟨RX7, "near", "(IIC)I"⟩
abbrev cX7_closed : ByteArray := prog_9_method_66_code
def yX7_closed : MethodName := ⟨RX7, "closed", "(II)I"⟩
abbrev cX7_inner : ByteArray := prog_9_method_67_code
def yX7_inner : MethodName := ⟨RX7, "inner", "(II)I"⟩
abbrev cX7_tops : ByteArray := prog_9_method_68_code
def yX7_tops : MethodName := ⟨RX7, "tops", "(II)I"⟩
abbrev cX7_shared : ByteArray := prog_9_method_69_code
def yX7_shared : MethodName := ⟨RX7, "shared", "(II)I"⟩
abbrev cX7_follow : ByteArray := prog_9_method_70_code
def yX7_follow : MethodName := ⟨RX7, "follow", "(IIIZ)I"⟩
abbrev cX7_rowsOf : ByteArray := prog_9_method_71_code
def yX7_rowsOf : MethodName := ⟨RX7, "rowsOf", "(I)I"⟩
abbrev cX7_lineUp : ByteArray := prog_9_method_72_code
def yX7_lineUp : MethodName := ⟨RX7, "lineUp", "(II)I"⟩
abbrev cX7_placeOfRow : ByteArray := prog_9_method_73_code
def yX7_placeOfRow : MethodName := ⟨RX7, "placeOfRow", "(II)I"⟩
abbrev cX7_rows : ByteArray := prog_9_method_74_code
def yX7_rows : MethodName := ⟨RX7, "rows", "(I)I"⟩
abbrev cX7_rowAt : ByteArray := prog_9_method_75_code
def yX7_rowAt : MethodName := ⟨RX7, "rowAt", "(II)I"⟩
abbrev cX7_rowPlace : ByteArray := prog_9_method_76_code
def yX7_rowPlace : MethodName := ⟨RX7, "rowPlace", "(II)I"⟩
abbrev cX7_nextRow : ByteArray := prog_9_method_77_code
def yX7_nextRow : MethodName := ⟨RX7, "nextRow", "(II)I"⟩
abbrev cX7_with : ByteArray := prog_9_method_78_code
def yX7_with : MethodName := ⟨RX7, "with", "(III)I"⟩
abbrev cX7_at : ByteArray := prog_9_method_79_code
def yX7_at : MethodName := ⟨RX7, "at", "(III)I"⟩
abbrev cX7_rowsWith : ByteArray := prog_9_method_80_code
def yX7_rowsWith : MethodName := ⟨RX7, "rowsWith", "(III)I"⟩
abbrev cX7_rowsAt : ByteArray := prog_9_method_81_code
def yX7_rowsAt : MethodName := ⟨RX7, "rowsAt", "(III)I"⟩
abbrev cX7_meanPlace : ByteArray := prog_9_method_82_code
def yX7_meanPlace : MethodName := ⟨RX7, "meanPlace", "(II)D"⟩
abbrev cX7_share : ByteArray := prog_9_method_83_code
def yX7_share : MethodName := ⟨RX7, "share", "(III)F"⟩
abbrev cX7_sumOf : ByteArray := prog_9_method_84_code
def yX7_sumOf : MethodName := ⟨RX7, "sumOf", "(II)I"⟩
abbrev cX7_numberOf : ByteArray := prog_9_method_85_code
def yX7_numberOf : MethodName := ⟨RX7, "numberOf", "(III)I"⟩
abbrev cX7_sum : ByteArray := prog_9_method_86_code
def yX7_sum : MethodName := ⟨RX7, "sum", "(II)I"⟩
abbrev cX7_number : ByteArray := prog_9_method_87_code
def yX7_number : MethodName := ⟨RX7, "number", "(III)I"⟩
abbrev cX7_undone : ByteArray := prog_9_method_88_code
def yX7_undone : MethodName := ⟨RX7, "undone", "(II)I"⟩
abbrev cX7_isSound : ByteArray := prog_9_method_89_code
def yX7_isSound : MethodName := ⟨RX7, "isSound", "(I)Z"⟩
abbrev cX7_areSound : ByteArray := prog_9_method_90_code
def yX7_areSound : MethodName := ⟨RX7, "areSound", "(II)Z"⟩
abbrev cX7_checksum : ByteArray := prog_9_method_91_code
def yX7_checksum : MethodName := ⟨RX7, "checksum", "()J"⟩
def RJ6 : String := "java/lang/Integer"
abbrev cJ6_bitCount_0f7a4 : ByteArray := prog_14_method_49_code
def yJ6_bitCount_0f7a4 : MethodName := ⟨RJ6, "bitCount", "(I)I"⟩
def RJ9 : String := "java/lang/Math"
abbrev cJ9_max_7cf53 : ByteArray := prog_15_method_65_code
def yJ9_max_7cf53 : MethodName := ⟨RJ9, "max", "(II)I"⟩
abbrev cJ9_min_7cf53 : ByteArray := prog_15_method_69_code
def yJ9_min_7cf53 : MethodName := ⟨RJ9, "min", "(II)I"⟩
def RJ0 : String := "java/lang/String"
def RL : String := "BelowhouseLaw"
abbrev cL_lay : ByteArray := method_3_code
def yL_lay : MethodName := ⟨RL, "lay", "(LBelowhouse;II[J)I"⟩
abbrev cL_chain : ByteArray := method_4_code
def yL_chain : MethodName := ⟨RL, "chain", "(LBelowhouse;II[J)I"⟩
abbrev cL_add : ByteArray := method_5_code
def yL_add : MethodName := ⟨RL, "add", "(LBelowhouse;II[J)I"⟩
abbrev cL_drop : ByteArray := method_6_code
def yL_drop : MethodName := ⟨RL, "drop", "(LBelowhouse;II[J)I"⟩
abbrev cL_keep : ByteArray := method_7_code
def yL_keep : MethodName := ⟨RL, "keep", "(LBelowhouse;II[J)I"⟩
abbrev cL_setValue : ByteArray := method_8_code
def yL_setValue : MethodName := ⟨RL, "setValue", "(LBelowhouse;III[J)I"⟩
abbrev cL_put : ByteArray := method_9_code
def yL_put : MethodName := ⟨RL, "put", "(LBelowhouse;III[J)I"⟩
abbrev cL_loose : ByteArray := method_10_code
def yL_loose : MethodName := ⟨RL, "loose", "(LBelowhouse;III[J)I"⟩
abbrev cL_straighten : ByteArray := method_11_code
def yL_straighten : MethodName := ⟨RL, "straighten", "(LBelowhouse;II[J)I"⟩
abbrev cL_turn : ByteArray := method_12_code
def yL_turn : MethodName := ⟨RL, "turn", "(LBelowhouse;I[J)I"⟩
abbrev cL_copy : ByteArray := method_13_code
def yL_copy : MethodName := ⟨RL, "copy", "(LBelowhouse;II[J)I"⟩
abbrev cL_beside : ByteArray := method_14_code
def yL_beside : MethodName := ⟨RL, "beside", "(LBelowhouse;III[J)I"⟩
abbrev cL_above : ByteArray := method_15_code
def yL_above : MethodName := ⟨RL, "above", "(LBelowhouse;III[J)I"⟩
abbrev cL_meet : ByteArray := method_16_code
def yL_meet : MethodName := ⟨RL, "meet", "(LBelowhouse;III[J)I"⟩
abbrev cL_things : ByteArray := method_17_code
def yL_things : MethodName := ⟨RL, "things", "(LBelowhouse;I[J)I"⟩
abbrev cL_pairs : ByteArray := method_18_code
def yL_pairs : MethodName := ⟨RL, "pairs", "(LBelowhouse;I[J)I"⟩
abbrev cL_nexts : ByteArray := method_19_code
def yL_nexts : MethodName := ⟨RL, "nexts", "(LBelowhouse;I[J)I"⟩
abbrev cL_sign : ByteArray := method_20_code
def yL_sign : MethodName := ⟨RL, "sign", "(LBelowhouse;III[J)I"⟩
abbrev cL_isNext : ByteArray := method_21_code
def yL_isNext : MethodName := ⟨RL, "isNext", "(LBelowhouse;III[J)I"⟩
abbrev cL_lower : ByteArray := method_22_code
def yL_lower : MethodName := ⟨RL, "lower", "(LBelowhouse;II[J)I"⟩
abbrev cL_upper : ByteArray := method_23_code
def yL_upper : MethodName := ⟨RL, "upper", "(LBelowhouse;II[J)I"⟩
abbrev cL_ends : ByteArray := method_24_code
def yL_ends : MethodName := ⟨RL, "ends", "(LBelowhouse;IZ[J)I"⟩
abbrev cL_value : ByteArray := method_25_code
def yL_value : MethodName := ⟨RL, "value", "(LBelowhouse;II[J)I"⟩
abbrev cL_isSame : ByteArray := method_26_code
def yL_isSame : MethodName := ⟨RL, "isSame", "(LBelowhouse;II[J)I"⟩
abbrev cL_isChain : ByteArray := method_27_code
def yL_isChain : MethodName := ⟨RL, "isChain", "(LBelowhouse;II[J)I"⟩
abbrev cL_isApart : ByteArray := method_28_code
def yL_isApart : MethodName := ⟨RL, "isApart", "(LBelowhouse;II[J)I"⟩
abbrev cL_level : ByteArray := method_29_code
def yL_level : MethodName := ⟨RL, "level", "(LBelowhouse;II[J)I"⟩
abbrev cL_longest : ByteArray := method_30_code
def yL_longest : MethodName := ⟨RL, "longest", "(LBelowhouse;I[J)I"⟩
abbrev cL_widest : ByteArray := method_31_code
def yL_widest : MethodName := ⟨RL, "widest", "(LBelowhouse;I[J)I"⟩
abbrev cL_fewestChains : ByteArray := method_32_code
def yL_fewestChains : MethodName := ⟨RL, "fewestChains", "(LBelowhouse;I[J)I"⟩
abbrev cL_fewestAparts : ByteArray := method_33_code
def yL_fewestAparts : MethodName := ⟨RL, "fewestAparts", "(LBelowhouse;I[J)I"⟩
abbrev cL_aparts : ByteArray := method_34_code
def yL_aparts : MethodName := ⟨RL, "aparts", "(LBelowhouse;I[J)I"⟩
abbrev cL_sets : ByteArray := method_35_code
def yL_sets : MethodName := ⟨RL, "sets", "(LBelowhouse;I[J)I"⟩
abbrev cL_setsOf : ByteArray := method_36_code
def yL_setsOf : MethodName := ⟨RL, "setsOf", "(LBelowhouse;II[J)I"⟩
abbrev cL_setAt : ByteArray := method_37_code
def yL_setAt : MethodName := ⟨RL, "setAt", "(LBelowhouse;II[J)I"⟩
abbrev cL_placeOf : ByteArray := method_38_code
def yL_placeOf : MethodName := ⟨RL, "placeOf", "(LBelowhouse;II[J)I"⟩
abbrev cL_near : ByteArray := method_39_code
def yL_near : MethodName := ⟨RL, "near", "(LBelowhouse;IIC[J)I"⟩
abbrev cL_closed : ByteArray := method_40_code
def yL_closed : MethodName := ⟨RL, "closed", "(LBelowhouse;II[J)I"⟩
abbrev cL_inner : ByteArray := method_41_code
def yL_inner : MethodName := ⟨RL, "inner", "(LBelowhouse;II[J)I"⟩
abbrev cL_tops : ByteArray := method_42_code
def yL_tops : MethodName := ⟨RL, "tops", "(LBelowhouse;II[J)I"⟩
abbrev cL_shared : ByteArray := method_43_code
def yL_shared : MethodName := ⟨RL, "shared", "(LBelowhouse;II[J)I"⟩
abbrev cL_rows : ByteArray := method_44_code
def yL_rows : MethodName := ⟨RL, "rows", "(LBelowhouse;I[J)I"⟩
abbrev cL_rowAt : ByteArray := method_45_code
def yL_rowAt : MethodName := ⟨RL, "rowAt", "(LBelowhouse;II[J)I"⟩
abbrev cL_rowPlace : ByteArray := method_46_code
def yL_rowPlace : MethodName := ⟨RL, "rowPlace", "(LBelowhouse;II[J)I"⟩
abbrev cL_nextRow : ByteArray := method_47_code
def yL_nextRow : MethodName := ⟨RL, "nextRow", "(LBelowhouse;II[J)I"⟩
abbrev cL_rowsWith : ByteArray := method_48_code
def yL_rowsWith : MethodName := ⟨RL, "rowsWith", "(LBelowhouse;III[J)I"⟩
abbrev cL_rowsAt : ByteArray := method_49_code
def yL_rowsAt : MethodName := ⟨RL, "rowsAt", "(LBelowhouse;III[J)I"⟩
abbrev cL_meanPlace : ByteArray := method_50_code
def yL_meanPlace : MethodName := ⟨RL, "meanPlace", "(LBelowhouse;II[D)I"⟩
abbrev cL_share : ByteArray := method_51_code
def yL_share : MethodName := ⟨RL, "share", "(LBelowhouse;III[D)I"⟩
abbrev cL_sum : ByteArray := method_52_code
def yL_sum : MethodName := ⟨RL, "sum", "(LBelowhouse;II[J)I"⟩
abbrev cL_number : ByteArray := method_53_code
def yL_number : MethodName := ⟨RL, "number", "(LBelowhouse;III[J)I"⟩
abbrev cL_undone : ByteArray := method_54_code
def yL_undone : MethodName := ⟨RL, "undone", "(LBelowhouse;II[J)I"⟩
abbrev cL_isSound : ByteArray := method_55_code
def yL_isSound : MethodName := ⟨RL, "isSound", "(LBelowhouse;I[J)I"⟩
abbrev cL_areSound : ByteArray := method_56_code
def yL_areSound : MethodName := ⟨RL, "areSound", "(LBelowhouse;II[J)I"⟩
abbrev cL_law : ByteArray := code
def yL_law : MethodName := ⟨RL, "law", "([I)Z"⟩
abbrev vwCl : List vw_C := [(RX0, TX0, 2), (RX2, TX2, 1), (RX3, TX3, 3), (RX4, TX4, 3), (RX5, TX5, 7), (RX6, TX6, 6), (RX7, TX7, 8)]
/-! ===== the table's words, as one predicate of a state ===== -/
def okW : Cond → Bool
  | .methodLinkNest _ _ _ _ => true
  | w => w.onTables && w.keeps
def Tz : List Cond := lw_tbl.filter okW
def TB (U : State) : Prop := ∀ w ∈ Tz, w.before #[] U = true
theorem okW_onTables {w : Cond} (h : okW w = true) : w.onTables = true := by
  cases w <;> first | rfl | (simp only [okW, Bool.and_eq_true] at h; exact h.1)
theorem TB.use {U : State} (h : TB U) {w : Cond} (hw : w ∈ Tz) {A : Array Value} : w.before A U = true :=
  va_Nw.use (okW_onTables (List.mem_filter.mp hw).2) (h w hw)
theorem okW_moved {w : Cond} (hk : okW w = true) {s U : State} (hW : s.WarmedH U.vm) (h : w.before #[] s = true) : w.before #[] U = true := by
  cases w with
  | methodLinkNest a i x z => exact va_Nw.warmM hW h
  | _ => exact word_at hW (Or.inl hk) h
theorem TB.moved {s U : State} (hW : s.WarmedH U.vm) (h : TB s) : TB U := fun w hw => okW_moved (List.mem_filter.mp hw).2 hW (h w hw)
theorem TB.same {u U : State} (e : u.vm = U.vm) (h : TB u) : TB U := fun w hw => va_Nw.same (okW_onTables (List.mem_filter.mp hw).2) e (h w hw)
theorem Tz_mem {w : Cond} (h : w ∈ lw_tbl) (hk : okW w = true) : w ∈ Tz := List.mem_filter.mpr ⟨h, hk⟩
theorem tz0 {w : Cond} (h : w ∈ k2_sels lw_privs) : w ∈ lw_tbl := List.mem_append_left _ h
theorem tzT {w : Cond} (h : w ∈ tables_1) : w ∈ lw_tbl := List.mem_append_right _ h
theorem tz1 {w : Cond} (h : w ∈ tables_1_1) : w ∈ lw_tbl := tzT (List.mem_append_left _ h)
theorem tz2 {w : Cond} (h : w ∈ tables_1_2) : w ∈ lw_tbl := tzT (List.mem_append_right _ (List.mem_append_left _ h))
theorem tz3 {w : Cond} (h : w ∈ tables_1_3) : w ∈ lw_tbl := tzT (List.mem_append_right _ (List.mem_append_right _ (List.mem_append_left _ h)))
theorem tz4 {w : Cond} (h : w ∈ tables_1_4) : w ∈ lw_tbl := tzT (List.mem_append_right _ (List.mem_append_right _ (List.mem_append_right _ (List.mem_append_left _ h))))
theorem tz5 {w : Cond} (h : w ∈ tables_1_5) : w ∈ lw_tbl := tzT (List.mem_append_right _ (List.mem_append_right _ (List.mem_append_right _ (List.mem_append_right _ (List.mem_append_left _ h)))))
theorem tz6 {w : Cond} (h : w ∈ tables_1_6) : w ∈ lw_tbl := tzT (List.mem_append_right _ (List.mem_append_right _ (List.mem_append_right _ (List.mem_append_right _ (List.mem_append_right _ (List.mem_append_left _ h))))))
theorem tz7 {w : Cond} (h : w ∈ tables_1_7) : w ∈ lw_tbl := tzT (List.mem_append_right _ (List.mem_append_right _ (List.mem_append_right _ (List.mem_append_right _ (List.mem_append_right _ (List.mem_append_right _ h))))))
/-! ===== the world: all cells, made at the law's start, at B + k ===== -/
abbrev Mem : Type := Nat → Nat → Int32
abbrev Ou : Type := (Nat → Int64) × (Nat → UInt64)
/-- kinds of cells: 0 int[], 1 boolean[], 2 Order, 3 Chains, 4 RowTable, 5 Numbers, 6 Theorem, 7 Belowhouse, 8 Model, 9 Order[], 10 int[][], 11 boolean[][][], 12 boolean[][], 13 long[], 14 double[] -/
def kdL : List Nat := [7, 9, 2, 0, 0, 2, 0, 0, 2, 0, 0, 2, 0, 0, 2, 0, 0, 3, 0, 0, 4, 0, 0, 0, 5, 0, 6, 2, 0, 0, 2, 0, 0, 4, 0, 0, 0, 4, 0, 0, 0, 3, 0, 0, 5, 0, 0, 8, 0, 10, 0, 0, 0, 0, 0, 11, 12, 1, 1, 1, 1, 1, 1, 1, 1, 1, 12, 1, 1, 1, 1, 1, 1, 1, 1, 1, 12, 1, 1, 1, 1, 1, 1, 1, 1, 1, 12, 1, 1, 1, 1, 1, 1, 1, 1, 1, 12, 1, 1, 1, 1, 1, 1, 1, 1, 1, 0, 0, 0, 0, 13, 14]
def lnL : List Nat := [0, 4, 0, 9, 9, 0, 9, 9, 0, 9, 9, 0, 9, 9, 0, 9, 9, 0, 9, 9, 0, 512, 512, 9, 0, 9, 0, 0, 9, 9, 0, 9, 9, 0, 512, 512, 9, 0, 512, 512, 9, 0, 9, 9, 0, 9, 10, 0, 5, 5, 9, 9, 9, 9, 9, 5, 9, 9, 9, 9, 9, 9, 9, 9, 9, 9, 9, 9, 9, 9, 9, 9, 9, 9, 9, 9, 9, 9, 9, 9, 9, 9, 9, 9, 9, 9, 9, 9, 9, 9, 9, 9, 9, 9, 9, 9, 9, 9, 9, 9, 9, 9, 9, 9, 9, 9, 512, 512, 9, 9, 1, 1]
def kd (k : Nat) : Nat := kdL.getD k 99
def ln (k : Nat) : Nat := lnL.getD k 0
def ent (B : Nat) (Y : Nat → ClassId) (M : Mem) (o : Ou) (k : Nat) : va_E := match kd k with
  | 0 => .inl (Y 0, ln k, .inl (M k))
  | 1 => .inl (Y 1, ln k, .inl (M k))
  | 2 => .inr (2, [.int (M k 0), .ref (B + (k + 1)), .ref (B + (k + 2))])
  | 3 => .inr (0, [.ref (B + (k + 1)), .ref (B + (k + 2))])
  | 4 => .inr (3, [.ref (B + (k + 1)), .ref (B + (k + 2)), .ref (B + (k + 3))])
  | 5 => .inr (1, [.ref (B + (k + 1))])
  | 6 => .inr (4, [.ref (B + 27), .ref (B + 30), .ref (B + 33), .ref (B + 37), .ref (B + 41), .ref (B + 44), .ref (B + 46)])
  | 7 => .inr (5, [.ref (B + 1), .ref (B + 14), .ref (B + 17), .ref (B + 20), .ref (B + 24), .ref (B + 26)])
  | 8 => .inr (6, [.ref (B + 48), .ref (B + 49), .ref (B + 55), .int (M k 3), .ref (B + 106), .ref (B + 107), .ref (B + 108), .ref (B + 109)])
  | 9 => .inl (Y 2, 4, .inr (.inr (.inr (.inr (fun j => some (B + (2 + 3 * j)))))))
  | 10 => .inl (Y 3, 5, .inr (.inr (.inr (.inr (fun j => some (B + (50 + j)))))))
  | 11 => .inl (Y 4, 5, .inr (.inr (.inr (.inr (fun j => some (B + (56 + 10 * j)))))))
  | 12 => .inl (Y 5, 9, .inr (.inr (.inr (.inr (fun j => some (B + (k + 1 + j)))))))
  | 13 => .inl (Y 6, 1, .inr (.inl o.1))
  | _ => .inl (Y 7, 1, .inr (.inr (.inr (.inl o.2))))
def WL (B : Nat) (Y : Nat → ClassId) (M : Mem) (o : Ou) : va_W := (List.range 112).map (fun k => (B + k, ent B Y M o k))
theorem WL_at {B : Nat} {Y : Nat → ClassId} {M : Mem} {o : Ou} {k : Nat} (h : k < 112) : (WL B Y M o)[k]? = some (B + k, ent B Y M o k) := by
  simp [WL, List.getElem?_range h]
theorem WL_out {B : Nat} {Y : Nat → ClassId} {M : Mem} {o : Ou} {k : Nat} (h : ¬ k < 112) : (WL B Y M o)[k]? = none := by
  simp [WL]; omega
theorem WL_inv {B : Nat} {Y : Nat → ClassId} {M : Mem} {o : Ou} {k : Nat} {q : Nat × va_E} (h : (WL B Y M o)[k]? = some q) : k < 112 ∧ q = (B + k, ent B Y M o k) := by
  by_cases hk : k < 112
  · rw [WL_at hk] at h
    exact ⟨hk, (Option.some.inj h).symm⟩
  · rw [WL_out hk] at h
    cases h
theorem WL_D (B : Nat) (Y : Nat → ClassId) (M : Mem) (o : Ou) : va_D (fun q => B ≤ q) (WL B Y M o) := by
  refine ⟨fun i j p q hi hj h => ?_, fun k q h => ?_⟩
  · obtain ⟨-, rfl⟩ := WL_inv hi
    obtain ⟨-, rfl⟩ := WL_inv hj
    dsimp only at h
    omega
  · obtain ⟨-, rfl⟩ := WL_inv h
    exact Nat.le_add_right _ _
theorem ent_cg {B : Nat} {Y : Nat → ClassId} {M M' : Mem} {o o' : Ou} {k : Nat} (h : M k = M' k) (ho : k < 110 → True) (ho2 : o = o' ∨ k < 110) (hk : k < 112) : ent B Y M o k = ent B Y M' o' k := by
  have h13 : k < 110 → kd k ≠ 13 ∧ kd k < 14 := by
    intro hk1
    have : ∀ j, j < 110 → kd j ≠ 13 ∧ kd j < 14 := by decide +kernel
    exact this k hk1
  rcases ho2 with rfl | h2
  · unfold ent
    rw [h]
  · obtain ⟨a, b⟩ := h13 h2
    unfold ent
    rw [h]
    generalize kd k = z at a b
    match z, a, b with
    | 0, _, _ => rfl
    | 1, _, _ => rfl
    | 2, _, _ => rfl
    | 3, _, _ => rfl
    | 4, _, _ => rfl
    | 5, _, _ => rfl
    | 6, _, _ => rfl
    | 7, _, _ => rfl
    | 8, _, _ => rfl
    | 9, _, _ => rfl
    | 10, _, _ => rfl
    | 11, _, _ => rfl
    | 12, _, _ => rfl
    | 13, a, _ => exact absurd rfl a
    | z + 14, _, b => omega
def upM (M : Mem) (k i : Nat) (x : Int32) : Mem := fun a j => if a = k then (if j = i then x else M a j) else M a j
theorem upM_row {M : Mem} {k i : Nat} {x : Int32} : upM M k i x k = upd (M k) i x := by
  funext j
  simp [upM, upd]
theorem upM_ne {M : Mem} {k i a : Nat} {x : Int32} (h : a ≠ k) : upM M k i x a = M a := by
  funext j
  simp [upM, h]
/-- one cell of the world is written -/
theorem WL_set {B : Nat} {Y : Nat → ClassId} {M M' : Mem} {o o' : Ou} {k : Nat} {e : va_E} (hk : k < 112) (he : ent B Y M' o' k = e) (hn : ∀ a, a ≠ k → M' a = M a) (ho : o' = o ∨ 110 ≤ k ∧ ∀ a, a < 112 → 110 ≤ a → a ≠ k → ent B Y M' o' a = ent B Y M o a) : (WL B Y M o).set k (B + k, e) = WL B Y M' o' := by
  apply List.ext_getElem?
  intro j
  rw [List.getElem?_set]
  by_cases hj : k = j
  · subst hj
    rw [if_pos rfl, WL_at hk, he]
    simp [WL, hk]
  · rw [if_neg hj]
    by_cases h1 : j < 112
    · rw [WL_at h1, WL_at h1]
      congr 2
      rcases ho with rfl | ⟨h2, h3⟩
      · exact ent_cg (hn j (fun z => hj z.symm)).symm (fun _ => trivial) (Or.inl rfl) h1
      · by_cases h4 : j < 110
        · exact ent_cg (hn j (fun z => hj z.symm)).symm (fun _ => trivial) (Or.inr h4) h1
        · exact (h3 j h1 (by omega) (fun z => hj z.symm)).symm
    · rw [WL_out h1, WL_out h1]
/-! kinds of cells -/
theorem kd_lt {k : Nat} (h : kd k ≠ 99) : k < 112 := by
  by_cases hk : k < 112
  · exact hk
  · exfalso
    apply h
    have e : kdL.length = 112 := by decide +kernel
    have h0 : kdL[k]? = none := List.getElem?_eq_none (by omega)
    unfold kd
    rw [List.getD_eq_getElem?_getD, h0]
    rfl
/-- an Order -/
theorem kO {q : Nat} (h : kd q = 2) : q < 112 ∧ kd (q + 1) = 0 ∧ ln (q + 1) = 9 ∧ kd (q + 2) = 0 ∧ ln (q + 2) = 9 ∧ q + 2 < 112 ∧ 2 ≤ q := by
  have hq : q < 112 := kd_lt (by rw [h]; decide)
  have : ∀ j, j < 112 → kd j = 2 → kd (j + 1) = 0 ∧ ln (j + 1) = 9 ∧ kd (j + 2) = 0 ∧ ln (j + 2) = 9 ∧ j + 2 < 112 ∧ 2 ≤ j := by decide +kernel
  exact ⟨hq, this q hq h⟩
theorem kC {q : Nat} (h : kd q = 3) : q < 112 ∧ kd (q + 1) = 0 ∧ ln (q + 1) = 9 ∧ kd (q + 2) = 0 ∧ ln (q + 2) = 9 ∧ q + 2 < 112 := by
  have hq : q < 112 := kd_lt (by rw [h]; decide)
  have : ∀ j, j < 112 → kd j = 3 → kd (j + 1) = 0 ∧ ln (j + 1) = 9 ∧ kd (j + 2) = 0 ∧ ln (j + 2) = 9 ∧ j + 2 < 112 := by decide +kernel
  exact ⟨hq, this q hq h⟩
theorem kR {q : Nat} (h : kd q = 4) : q < 112 ∧ kd (q + 1) = 0 ∧ ln (q + 1) = 512 ∧ kd (q + 2) = 0 ∧ ln (q + 2) = 512 ∧ kd (q + 3) = 0 ∧ ln (q + 3) = 9 ∧ q + 3 < 112 := by
  have hq : q < 112 := kd_lt (by rw [h]; decide)
  have : ∀ j, j < 112 → kd j = 4 → kd (j + 1) = 0 ∧ ln (j + 1) = 512 ∧ kd (j + 2) = 0 ∧ ln (j + 2) = 512 ∧ kd (j + 3) = 0 ∧ ln (j + 3) = 9 ∧ j + 3 < 112 := by decide +kernel
  exact ⟨hq, this q hq h⟩
theorem kN {q : Nat} (h : kd q = 5) : q < 112 ∧ kd (q + 1) = 0 ∧ ln (q + 1) = 9 ∧ q + 1 < 112 := by
  have hq : q < 112 := kd_lt (by rw [h]; decide)
  have : ∀ j, j < 112 → kd j = 5 → kd (j + 1) = 0 ∧ ln (j + 1) = 9 ∧ j + 1 < 112 := by decide +kernel
  exact ⟨hq, this q hq h⟩
/-- an int array: kind and length -/
def IA (k n : Nat) : Prop := kd k = 0 ∧ ln k = n
def ZA (k : Nat) : Prop := kd k = 1
theorem ZA_ln {k : Nat} (h : ZA k) : k < 112 ∧ ln k = 9 := by
  have hq : k < 112 := kd_lt (by rw [show kd k = 1 from h]; decide)
  have : ∀ j, j < 112 → kd j = 1 → ln j = 9 := by decide +kernel
  exact ⟨hq, this k hq h⟩
theorem IA_lt {k n : Nat} (h : IA k n) : k < 112 := kd_lt (by rw [h.1]; decide)
theorem iO1 {q : Nat} (h : kd q = 2) : IA (q + 1) 9 := ⟨(kO h).2.1, (kO h).2.2.1⟩
theorem iO2 {q : Nat} (h : kd q = 2) : IA (q + 2) 9 := ⟨(kO h).2.2.2.1, (kO h).2.2.2.2.1⟩
theorem iC1 {q : Nat} (h : kd q = 3) : IA (q + 1) 9 := ⟨(kC h).2.1, (kC h).2.2.1⟩
theorem iC2 {q : Nat} (h : kd q = 3) : IA (q + 2) 9 := ⟨(kC h).2.2.2.1, (kC h).2.2.2.2.1⟩
theorem iR1 {q : Nat} (h : kd q = 4) : IA (q + 1) 512 := ⟨(kR h).2.1, (kR h).2.2.1⟩
theorem iR2 {q : Nat} (h : kd q = 4) : IA (q + 2) 512 := ⟨(kR h).2.2.2.1, (kR h).2.2.2.2.1⟩
theorem iR3 {q : Nat} (h : kd q = 4) : IA (q + 3) 9 := ⟨(kR h).2.2.2.2.2.1, (kR h).2.2.2.2.2.2.1⟩
theorem iN1 {q : Nat} (h : kd q = 5) : IA (q + 1) 9 := ⟨(kN h).2.1, (kN h).2.2.1⟩
/-- Order number i of the object -/
theorem kOrd {j : Nat} (h : j < 4) : kd (2 + 3 * j) = 2 := by
  have : ∀ i, i < 4 → kd (2 + 3 * i) = 2 := by decide +kernel
  exact this j h
theorem iVal {j : Nat} (h : j < 5) : IA (50 + j) 9 := by
  have : ∀ i, i < 5 → kd (50 + i) = 0 ∧ ln (50 + i) = 9 := by decide +kernel
  exact this j h
theorem kBel {j : Nat} (h : j < 5) : kd (56 + 10 * j) = 12 := by
  have : ∀ i, i < 5 → kd (56 + 10 * i) = 12 := by decide +kernel
  exact this j h
theorem kRow {q j : Nat} (h : kd q = 12) (hj : j < 9) : ZA (q + 1 + j) := by
  have hq : q < 112 := kd_lt (by rw [h]; decide)
  have : ∀ k, k < 112 → kd k = 12 → ∀ i, i < 9 → kd (k + 1 + i) = 1 := by decide +kernel
  exact this q hq h j hj
/-! ===== the pure words of the functions ===== -/
def inb (i : Int32) (n : Nat) : Bool := !(decide (i < 0)) && decide (i.toNatClampNeg < n)
theorem inb_in {i : Int32} {n : Nat} (h : inb i n = true) : vp_in i n := by
  simp only [inb, Bool.and_eq_true, Bool.not_eq_true', decide_eq_false_iff_not, decide_eq_true_eq] at h
  rintro (q | q)
  · exact h.1 q
  · omega
theorem inb_lt {i : Int32} {n : Nat} (h : inb i n = true) : i.toNatClampNeg < n := by
  simp only [inb, Bool.and_eq_true, decide_eq_true_eq] at h
  exact h.2
def chk {α : Type} (b : Bool) (x : Option α) : Option α := match b with
  | true => x
  | false => none
theorem chk_t {α : Type} {x : Option α} : chk true x = x := rfl
theorem chk_of {α : Type} {b : Bool} {x : Option α} (h : b = true) : chk b x = x := by rw [h]; rfl
theorem chk_i {α : Type} {b : Bool} {x : Option α} {r : α} (h : chk b x = some r) : b = true ∧ x = some r := by
  cases b
  · cases h
  · exact ⟨rfl, h⟩
def bd {α β : Type} (x : Option α) (g : α → Option β) : Option β := match x with
  | some a => g a
  | none => none
theorem bd_some {α β : Type} (a : α) (g : α → Option β) : bd (some a) g = g a := rfl
theorem bd_of {α β : Type} {x : Option α} {a : α} {g : α → Option β} (h : x = some a) : bd x g = g a := by rw [h]; rfl
theorem bd_i {α β : Type} {x : Option α} {g : α → Option β} {r : β} (h : bd x g = some r) : ∃ a, x = some a ∧ g a = some r := by
  cases x with
  | none => cases h
  | some a => exact ⟨a, rfl, h⟩
def lp {σ ρ : Type} (g : (σ → Option ρ) → σ → Option ρ) : Nat → σ → Option ρ
  | 0, _ => none
  | n + 1, a => g (lp g n) a
theorem lp_0 {σ ρ : Type} (g : (σ → Option ρ) → σ → Option ρ) (a : σ) : lp g 0 a = none := rfl
theorem lp_s {σ ρ : Type} (g : (σ → Option ρ) → σ → Option ρ) (n : Nat) (a : σ) : lp g (n + 1) a = g (lp g n) a := rfl
def isb (x : Int32) : Bool := decide (x = 0) || decide (x = 1)
theorem isb_or {x : Int32} (h : isb x = true) : x = 0 ∨ x = 1 := by
  simpa [isb] using h
theorem isb_nz {x : Int32} (h : isb x = true) : narrow .boolean (.int x) = .int x := by
  rcases isb_or h with rfl | rfl <;> decide +kernel
theorem isb_vn {x : Int32} (h : isb x = true) : vp_nar .boolean x = x := by
  rcases isb_or h with rfl | rfl <;> decide +kernel
theorem inX0 : ∀ w ∈ u_ws RX0 TX0 2, w ∈ Tz := fun w hw => (List.forall_mem_cons.mpr ⟨Tz_mem (tz1 (List.mem_of_getElem? (i := 62) rfl)) rfl, List.forall_mem_cons.mpr ⟨Tz_mem (tz1 (List.mem_of_getElem? (i := 64) rfl)) rfl, List.forall_mem_nil _⟩⟩ : ∀ w ∈ [Cond.laysFinal RX0 "Belowhouse$Chains" "ahead" "[I", Cond.laysFinal RX0 "Belowhouse$Chains" "searched" "[I"], w ∈ Tz) w hw
theorem inX2 : ∀ w ∈ u_ws RX2 TX2 1, w ∈ Tz := fun w hw => (List.forall_mem_cons.mpr ⟨Tz_mem (tz1 (List.mem_of_getElem? (i := 91) rfl)) rfl, List.forall_mem_nil _⟩ : ∀ w ∈ [Cond.laysFinal RX2 "Belowhouse$Numbers" "ofHigh" "[I"], w ∈ Tz) w hw
theorem inX3 : ∀ w ∈ u_ws RX3 TX3 3, w ∈ Tz := fun w hw => (List.forall_mem_cons.mpr ⟨Tz_mem (tz1 (List.mem_of_getElem? (i := 46) rfl)) rfl, List.forall_mem_cons.mpr ⟨Tz_mem (tz1 (List.mem_of_getElem? (i := 48) rfl)) rfl, List.forall_mem_cons.mpr ⟨Tz_mem (tz1 (List.mem_of_getElem? (i := 50) rfl)) rfl, List.forall_mem_nil _⟩⟩⟩ : ∀ w ∈ [Cond.lays RX3 "Belowhouse$Order" "count" "I", Cond.laysFinal RX3 "Belowhouse$Order" "below" "[I", Cond.laysFinal RX3 "Belowhouse$Order" "values" "[I"], w ∈ Tz) w hw
theorem inX4 : ∀ w ∈ u_ws RX4 TX4 3, w ∈ Tz := fun w hw => (List.forall_mem_cons.mpr ⟨Tz_mem (tz1 (List.mem_of_getElem? (i := 77) rfl)) rfl, List.forall_mem_cons.mpr ⟨Tz_mem (tz1 (List.mem_of_getElem? (i := 79) rfl)) rfl, List.forall_mem_cons.mpr ⟨Tz_mem (tz1 (List.mem_of_getElem? (i := 81) rfl)) rfl, List.forall_mem_nil _⟩⟩⟩ : ∀ w ∈ [Cond.laysFinal RX4 "Belowhouse$RowTable" "waysTo" "[I", Cond.laysFinal RX4 "Belowhouse$RowTable" "waysOn" "[I", Cond.laysFinal RX4 "Belowhouse$RowTable" "line" "[I"], w ∈ Tz) w hw
theorem inX5 : ∀ w ∈ u_ws RX5 TX5 7, w ∈ Tz := fun w hw => (List.forall_mem_cons.mpr ⟨Tz_mem (tz1 (List.mem_of_getElem? (i := 115) rfl)) rfl, List.forall_mem_cons.mpr ⟨Tz_mem (tz1 (List.mem_of_getElem? (i := 117) rfl)) rfl, List.forall_mem_cons.mpr ⟨Tz_mem (tz1 (List.mem_of_getElem? (i := 119) rfl)) rfl, List.forall_mem_cons.mpr ⟨Tz_mem (tz1 (List.mem_of_getElem? (i := 121) rfl)) rfl, List.forall_mem_cons.mpr ⟨Tz_mem (tz1 (List.mem_of_getElem? (i := 123) rfl)) rfl, List.forall_mem_cons.mpr ⟨Tz_mem (tz1 (List.mem_of_getElem? (i := 125) rfl)) rfl, List.forall_mem_cons.mpr ⟨Tz_mem (tz1 (List.mem_of_getElem? (i := 127) rfl)) rfl, List.forall_mem_nil _⟩⟩⟩⟩⟩⟩⟩ : ∀ w ∈ [Cond.laysFinal RX5 "Belowhouse$Theorem" "tried" "LBelowhouse$Order;", Cond.laysFinal RX5 "Belowhouse$Theorem" "turned" "LBelowhouse$Order;", Cond.laysFinal RX5 "Belowhouse$Theorem" "table" "LBelowhouse$RowTable;", Cond.laysFinal RX5 "Belowhouse$Theorem" "triedTable" "LBelowhouse$RowTable;", Cond.laysFinal RX5 "Belowhouse$Theorem" "chains" "LBelowhouse$Chains;", Cond.laysFinal RX5 "Belowhouse$Theorem" "numbers" "LBelowhouse$Numbers;", Cond.laysFinal RX5 "Belowhouse$Theorem" "sizes" "[I"], w ∈ Tz) w hw
theorem inX6 : ∀ w ∈ u_ws RX6 TX6 6, w ∈ Tz := fun w hw => (List.forall_mem_cons.mpr ⟨Tz_mem (tz1 (List.mem_of_getElem? (i := 136) rfl)) rfl, List.forall_mem_cons.mpr ⟨Tz_mem (tz1 (List.mem_of_getElem? (i := 138) rfl)) rfl, List.forall_mem_cons.mpr ⟨Tz_mem (tz1 (List.mem_of_getElem? (i := 140) rfl)) rfl, List.forall_mem_cons.mpr ⟨Tz_mem (tz1 (List.mem_of_getElem? (i := 142) rfl)) rfl, List.forall_mem_cons.mpr ⟨Tz_mem (tz1 (List.mem_of_getElem? (i := 144) rfl)) rfl, List.forall_mem_cons.mpr ⟨Tz_mem (tz1 (List.mem_of_getElem? (i := 146) rfl)) rfl, List.forall_mem_nil _⟩⟩⟩⟩⟩⟩ : ∀ w ∈ [Cond.laysFinal RX6 "Belowhouse" "orders" "[LBelowhouse$Order;", Cond.laysFinal RX6 "Belowhouse" "made" "LBelowhouse$Order;", Cond.laysFinal RX6 "Belowhouse" "chains" "LBelowhouse$Chains;", Cond.laysFinal RX6 "Belowhouse" "table" "LBelowhouse$RowTable;", Cond.laysFinal RX6 "Belowhouse" "numbers" "LBelowhouse$Numbers;", Cond.laysFinal RX6 "Belowhouse" "theorem" "LBelowhouse$Theorem;"], w ∈ Tz) w hw
theorem inX7 : ∀ w ∈ u_ws RX7 TX7 8, w ∈ Tz := fun w hw => (List.forall_mem_cons.mpr ⟨Tz_mem (tz5 (List.mem_of_getElem? (i := 138) rfl)) rfl, List.forall_mem_cons.mpr ⟨Tz_mem (tz5 (List.mem_of_getElem? (i := 140) rfl)) rfl, List.forall_mem_cons.mpr ⟨Tz_mem (tz5 (List.mem_of_getElem? (i := 142) rfl)) rfl, List.forall_mem_cons.mpr ⟨Tz_mem (tz5 (List.mem_of_getElem? (i := 144) rfl)) rfl, List.forall_mem_cons.mpr ⟨Tz_mem (tz5 (List.mem_of_getElem? (i := 146) rfl)) rfl, List.forall_mem_cons.mpr ⟨Tz_mem (tz5 (List.mem_of_getElem? (i := 148) rfl)) rfl, List.forall_mem_cons.mpr ⟨Tz_mem (tz5 (List.mem_of_getElem? (i := 150) rfl)) rfl, List.forall_mem_cons.mpr ⟨Tz_mem (tz5 (List.mem_of_getElem? (i := 152) rfl)) rfl, List.forall_mem_nil _⟩⟩⟩⟩⟩⟩⟩⟩ : ∀ w ∈ [Cond.laysFinal RX7 "BelowhouseModel" "things" "[I", Cond.laysFinal RX7 "BelowhouseModel" "values" "[[I", Cond.laysFinal RX7 "BelowhouseModel" "below" "[[[Z", Cond.lays RX7 "BelowhouseModel" "code" "I", Cond.laysFinal RX7 "BelowhouseModel" "ways" "[I", Cond.laysFinal RX7 "BelowhouseModel" "parts" "[I", Cond.laysFinal RX7 "BelowhouseModel" "line" "[I", Cond.laysFinal RX7 "BelowhouseModel" "lows" "[I"], w ∈ Tz) w hw
end
section
theorem ent0 {B : Nat} {Y : Nat → ClassId} {M : Mem} {o : Ou} {k : Nat} (h : kd k = 0) : ent B Y M o k = .inl (Y 0, ln k, .inl (M k)) := by simp only [ent, h]
theorem ent1 {B : Nat} {Y : Nat → ClassId} {M : Mem} {o : Ou} {k : Nat} (h : kd k = 1) : ent B Y M o k = .inl (Y 1, ln k, .inl (M k)) := by simp only [ent, h]
theorem ent2 {B : Nat} {Y : Nat → ClassId} {M : Mem} {o : Ou} {k : Nat} (h : kd k = 2) : ent B Y M o k = .inr (2, [.int (M k 0), .ref (B + (k + 1)), .ref (B + (k + 2))]) := by simp only [ent, h]
theorem ent3 {B : Nat} {Y : Nat → ClassId} {M : Mem} {o : Ou} {k : Nat} (h : kd k = 3) : ent B Y M o k = .inr (0, [.ref (B + (k + 1)), .ref (B + (k + 2))]) := by simp only [ent, h]
theorem ent4 {B : Nat} {Y : Nat → ClassId} {M : Mem} {o : Ou} {k : Nat} (h : kd k = 4) : ent B Y M o k = .inr (3, [.ref (B + (k + 1)), .ref (B + (k + 2)), .ref (B + (k + 3))]) := by simp only [ent, h]
theorem ent5 {B : Nat} {Y : Nat → ClassId} {M : Mem} {o : Ou} {k : Nat} (h : kd k = 5) : ent B Y M o k = .inr (1, [.ref (B + (k + 1))]) := by simp only [ent, h]
theorem ent12 {B : Nat} {Y : Nat → ClassId} {M : Mem} {o : Ou} {k : Nat} (h : kd k = 12) : ent B Y M o k = .inl (Y 5, 9, .inr (.inr (.inr (.inr (fun j => some (B + (k + 1 + j))))))) := by simp only [ent, h]
/-- the component types of the array classes -/
def tyY : List FieldType := [.int, .boolean, .object "Belowhouse$Order", .array .int, .array (.array .boolean), .array .boolean, .long, .double]
def KY (Y : Nat → ClassId) (U : State) : Prop := ∀ (k : Nat) (ty : FieldType), tyY[k]? = some ty → ArrOfT U (Y k) ty
theorem KY.moved {Y : Nat → ClassId} {u U : State} (hvm : u.vm.Alike U.vm) (h : KY Y u) : KY Y U := fun k ty hk => arrOfT_moved hvm (h k ty hk)
/-- what a method's body stands on -/
def Cx (p : Program) (s : State) (m : MethodId) (args : Array Value) (c : Code) (cc : ByteArray) (nL : Nat) (own : String) (B : Nat) (D : va_G) (Y : Nat → ClassId) : Prop :=
  p.tables.exec = Jvm.exec ∧ c.code = cc ∧ c.maxLocals = nL ∧ s.vm.findClass own = some m.cls ∧ TB s ∧ va_K D vwCl [] s ∧ KY Y s ∧ B ≤ s.heap.size
/-- from every heap that holds the memory M: a run from pc, with these locals and this stack, comes to Q -/
def At (p : Program) (l : Launch) (e : Env) (R : Room) (s : State) (m : MethodId) (args : Array Value) (below : List Frame) (meth : Method) (c : Code) (nL cells slots : Nat) (Q : State → Prop) (B : Nat) (D : va_G) (Y : Nat → ClassId) (o : Ou) (pc : Nat) (M : Mem) (L : List (Nat × Value)) (st : List Value) : Prop :=
  ∀ (H : Heap) (locs : List Loc) (ls : Array Slot), va_P D vwCl (WL B Y M o) H → va_S (fun q => B ≤ q) s.heap H locs → lv_has ls nL L → W p l e R s m args below meth c H locs cells slots Q (F0 m pc ls st)
/-- what holds where a method begins -/
def Inv (B : Nat) (D : va_G) (Y : Nat → ClassId) (M : Mem) (o : Ou) (U : State) : Prop := TB U ∧ va_K D vwCl [] U ∧ KY Y U ∧ va_P D vwCl (WL B Y M o) U.heap
/-- what holds where it has returned v -/
def PQ (B : Nat) (D : va_G) (Y : Nat → ClassId) (M : Mem) (o : Ou) (v : Option Value) : Array Value → State → Outcome → State → Prop := fun _ st oc t => oc = .returned v ∧ va_P D vwCl (WL B Y M o) t.heap ∧ va_F (fun q => B ≤ q) st t
theorem va_P.hi {D : va_G} {B : Nat} {Y : Nat → ClassId} {M : Mem} {o : Ou} {H : Heap} (h : va_P D vwCl (WL B Y M o) H) : B + 111 < H.size := (h 111 _ (WL_at (by decide))).lt
abbrev MW (l : Launch) (y : MethodName) (cc : ByteArray) (nL : Nat) (ret : Option FieldType) (rm : Room) (B : Nat) (D : va_G) (Y : Nat → ClassId) (o : Ou) (A : List Value) (M : Mem) (M' : Mem) (v : Option Value) : Prop :=
  Met l y [Cond.code y cc nL ret] rm (va_Pc A (Inv B D Y M o)) (PQ B D Y M' o v) 0 0 (fun q => B ≤ q)
section ATS
variable {p : Program} {l : Launch} {e : Env} {R : Room} {s : State} {m : MethodId} {args : Array Value} {below : List Frame} {meth : Method} {c : Code} {nL cells slots : Nat} {Q : State → Prop} {B : Nat} {D : va_G} {Y : Nat → ClassId} {o : Ou} {pc : Nat} {M : Mem} {L L' : List (Nat × Value)} {rest : List Value} {cc : ByteArray} {own : String}
/-- a method out of its body -/
theorem ofAt {y : MethodName} {ret : Option FieldType} {rm : Room} {A : List Value} {Qc : Array Value → State → Outcome → State → Prop} {mc ms : Nat} {L0 : List (Nat × Value)} (hy : plainName y.cls = true) (hA : (lg_sl A).length ≤ nL) (hL : lv_args 0 A = L0)
    (body : ∀ (p : Program) (e : Env) (s : State) (m : MethodId) (args : Array Value) (below : List Frame) (meth : Method) (c : Code), Cx p s m args c cc nL y.cls B D Y → meth.sig.returnType = ret → meth.locks = false → At p l e rm s m args below meth c nL 0 0 (MQ below Qc args s mc ms (fun q => B ≤ q)) B D Y o 0 M L0 []) :
    Met l y [Cond.code y cc nL ret] rm (va_Pc A (Inv B D Y M o)) Qc mc ms (fun q => B ≤ q) := by
  refine Met.ofW (cc := cc) (maxL := nL) (ret := ret) hy rfl ?_
  intro p e s m args below meth c s₁ B0 hml hv
  obtain ⟨rfl, hT, hK, hY, hP⟩ := hv
  have hown : s.vm.findClass y.cls = some m.cls := findClass_of_methodNamed B0.named
  have hB := hP.hi
  have hl := lv_entry A (n := nL) hA
  rw [lg_entry_eq]
  exact body p e s m _ below meth c ⟨B0.exec, B0.bytes, hml, hown, hT, hK, hY, by omega⟩ B0.returns B0.notSynchronized s.heap [] _ hP va_S.rf (hL ▸ hl)
/-! instructions that touch the stack and the locals alone -/
theorem A_iconst (C : Cx p s m args c cc nL own B D Y) {z : Int} {v : Int32} (hv : Int32.ofInt z = v) (hd : decode cc pc = .ok (.iconst z, 1)) (k : At p l e R s m args below meth c nL cells slots Q B D Y o (pc + 1) M L (.int v :: rest)) : At p l e R s m args below meth c nL cells slots Q B D Y o pc M L rest := fun H locs ls hP hS hl => lv_iconst C.1 C.2.1 hd hv (k H locs ls hP hS hl)
theorem A_bipush (C : Cx p s m args c cc nL own B D Y) {z : Int} {v : Int32} (hv : (Int8.ofInt z).toInt32 = v) (hd : decode cc pc = .ok (.bipush z, 2)) (k : At p l e R s m args below meth c nL cells slots Q B D Y o (pc + 2) M L (.int v :: rest)) : At p l e R s m args below meth c nL cells slots Q B D Y o pc M L rest := fun H locs ls hP hS hl => lv_bipush C.1 C.2.1 hd hv (k H locs ls hP hS hl)
theorem A_sipush (C : Cx p s m args c cc nL own B D Y) {z : Int} {v : Int32} (hv : (Int16.ofInt z).toInt32 = v) (hd : decode cc pc = .ok (.sipush z, 3)) (k : At p l e R s m args below meth c nL cells slots Q B D Y o (pc + 3) M L (.int v :: rest)) : At p l e R s m args below meth c nL cells slots Q B D Y o pc M L rest := fun H locs ls hP hS hl => lv_sipush C.1 C.2.1 hd hv (k H locs ls hP hS hl)
theorem A_lconst (C : Cx p s m args c cc nL own B D Y) {z : Fin 2} {v : Int64} (hv : Int64.ofNat (z : Nat) = v) (hd : decode cc pc = .ok (.lconst z, 1)) (k : At p l e R s m args below meth c nL cells slots Q B D Y o (pc + 1) M L (.long v :: rest)) : At p l e R s m args below meth c nL cells slots Q B D Y o pc M L rest := fun H locs ls hP hS hl => lv_lconst C.1 C.2.1 hd hv (k H locs ls hP hS hl)
theorem A_dconst0 (C : Cx p s m args c cc nL own B D Y)  (hd : decode cc pc = .ok (.dconst 0, 1)) (k : At p l e R s m args below meth c nL cells slots Q B D Y o (pc + 1) M L (.double 0 :: rest)) : At p l e R s m args below meth c nL cells slots Q B D Y o pc M L rest := fun H locs ls hP hS hl => lv_dconst0 C.1 C.2.1 hd (k H locs ls hP hS hl)
theorem A_fconst0 (C : Cx p s m args c cc nL own B D Y)  (hd : decode cc pc = .ok (.fconst 0, 1)) (k : At p l e R s m args below meth c nL cells slots Q B D Y o (pc + 1) M L (.float 0 :: rest)) : At p l e R s m args below meth c nL cells slots Q B D Y o pc M L rest := fun H locs ls hP hS hl => lv_fconst0 C.1 C.2.1 hd (k H locs ls hP hS hl)
theorem A_iload_n (C : Cx p s m args c cc nL own B D Y) {j : Fin 4} {x : Int32} (k0 : Nat) (hk : L[k0]? = some ((j : Nat), .int x)) (hd : decode cc pc = .ok (.iload_n j, 1)) (k : At p l e R s m args below meth c nL cells slots Q B D Y o (pc + 1) M L (.int x :: rest)) : At p l e R s m args below meth c nL cells slots Q B D Y o pc M L rest := fun H locs ls hP hS hl => lv_iload_n C.1 C.2.1 hd rfl (lv_at hl k0 hk) (k H locs ls hP hS hl)
theorem A_iload (C : Cx p s m args c cc nL own B D Y) {j : Nat} {x : Int32} (k0 : Nat) (hk : L[k0]? = some (j, .int x)) (hd : decode cc pc = .ok (.iload j, 2)) (k : At p l e R s m args below meth c nL cells slots Q B D Y o (pc + 2) M L (.int x :: rest)) : At p l e R s m args below meth c nL cells slots Q B D Y o pc M L rest := fun H locs ls hP hS hl => lv_iload C.1 C.2.1 hd (lv_at hl k0 hk) (k H locs ls hP hS hl)
theorem A_istore_n (C : Cx p s m args c cc nL own B D Y) {j : Fin 4} {i : Nat} {x : Int32} (L' : List (Nat × Value)) (hi : (j : Nat) = i) (hn : i < nL) (ks : List Nat) (hl2 : lv_pick ((i, Value.int x) :: L.filter (fun q => !(q.1 == i) && !(q.1 + 1 == i && q.2.category == 2))) ks = L') (hd : decode cc pc = .ok (.istore_n j, 1)) (k : At p l e R s m args below meth c nL cells slots Q B D Y o (pc + 1) M L' rest) : At p l e R s m args below meth c nL cells slots Q B D Y o pc M L (.int x :: rest) := fun H locs ls hP hS hl => lv_istore_n C.1 C.2.1 hd hi hl hn rfl (fun ls hl => k H locs ls hP hS (lv_sub hl ks hl2))
theorem A_istore (C : Cx p s m args c cc nL own B D Y) {i : Nat} {x : Int32} (L' : List (Nat × Value)) (hn : i < nL) (ks : List Nat) (hl2 : lv_pick ((i, Value.int x) :: L.filter (fun q => !(q.1 == i) && !(q.1 + 1 == i && q.2.category == 2))) ks = L') (hd : decode cc pc = .ok (.istore i, 2)) (k : At p l e R s m args below meth c nL cells slots Q B D Y o (pc + 2) M L' rest) : At p l e R s m args below meth c nL cells slots Q B D Y o pc M L (.int x :: rest) := fun H locs ls hP hS hl => lv_istore C.1 C.2.1 hd hl hn rfl (fun ls hl => k H locs ls hP hS (lv_sub hl ks hl2))
theorem A_lload_n (C : Cx p s m args c cc nL own B D Y) {j : Fin 4} {x : Int64} (k0 : Nat) (hk : L[k0]? = some ((j : Nat), .long x)) (hd : decode cc pc = .ok (.lload_n j, 1)) (k : At p l e R s m args below meth c nL cells slots Q B D Y o (pc + 1) M L (.long x :: rest)) : At p l e R s m args below meth c nL cells slots Q B D Y o pc M L rest := fun H locs ls hP hS hl => lv_lload_n C.1 C.2.1 hd rfl (lv_at hl k0 hk) (k H locs ls hP hS hl)
theorem A_lload (C : Cx p s m args c cc nL own B D Y) {j : Nat} {x : Int64} (k0 : Nat) (hk : L[k0]? = some (j, .long x)) (hd : decode cc pc = .ok (.lload j, 2)) (k : At p l e R s m args below meth c nL cells slots Q B D Y o (pc + 2) M L (.long x :: rest)) : At p l e R s m args below meth c nL cells slots Q B D Y o pc M L rest := fun H locs ls hP hS hl => lv_lload C.1 C.2.1 hd (lv_at hl k0 hk) (k H locs ls hP hS hl)
theorem A_lstore_n (C : Cx p s m args c cc nL own B D Y) {j : Fin 4} {i : Nat} {x : Int64} (L' : List (Nat × Value)) (hi : (j : Nat) = i) (hn : i + 1 < nL) (ks : List Nat) (hl2 : lv_pick ((i, Value.long x) :: L.filter (fun q => !(q.1 == i) && (!(q.1 == i + 1) && !(q.1 + 1 == i && q.2.category == 2)))) ks = L') (hd : decode cc pc = .ok (.lstore_n j, 1)) (k : At p l e R s m args below meth c nL cells slots Q B D Y o (pc + 1) M L' rest) : At p l e R s m args below meth c nL cells slots Q B D Y o pc M L (.long x :: rest) := fun H locs ls hP hS hl => lv_lstore_n C.1 C.2.1 hd hi hl hn rfl (fun ls hl => k H locs ls hP hS (lv_sub hl ks hl2))
theorem A_lstore (C : Cx p s m args c cc nL own B D Y) {i : Nat} {x : Int64} (L' : List (Nat × Value)) (hn : i + 1 < nL) (ks : List Nat) (hl2 : lv_pick ((i, Value.long x) :: L.filter (fun q => !(q.1 == i) && (!(q.1 == i + 1) && !(q.1 + 1 == i && q.2.category == 2)))) ks = L') (hd : decode cc pc = .ok (.lstore i, 2)) (k : At p l e R s m args below meth c nL cells slots Q B D Y o (pc + 2) M L' rest) : At p l e R s m args below meth c nL cells slots Q B D Y o pc M L (.long x :: rest) := fun H locs ls hP hS hl => lv_lstore C.1 C.2.1 hd hl hn rfl (fun ls hl => k H locs ls hP hS (lv_sub hl ks hl2))
theorem A_aload_n (C : Cx p s m args c cc nL own B D Y) {j : Fin 4} {x : Nat} (k0 : Nat) (hk : L[k0]? = some ((j : Nat), .ref x)) (hd : decode cc pc = .ok (.aload_n j, 1)) (k : At p l e R s m args below meth c nL cells slots Q B D Y o (pc + 1) M L (.ref x :: rest)) : At p l e R s m args below meth c nL cells slots Q B D Y o pc M L rest := fun H locs ls hP hS hl => lv_aload_n C.1 C.2.1 hd rfl (lv_at hl k0 hk) (k H locs ls hP hS hl)
theorem A_aload (C : Cx p s m args c cc nL own B D Y) {j : Nat} {x : Nat} (k0 : Nat) (hk : L[k0]? = some (j, .ref x)) (hd : decode cc pc = .ok (.aload j, 2)) (k : At p l e R s m args below meth c nL cells slots Q B D Y o (pc + 2) M L (.ref x :: rest)) : At p l e R s m args below meth c nL cells slots Q B D Y o pc M L rest := fun H locs ls hP hS hl => lv_aload C.1 C.2.1 hd (lv_at hl k0 hk) (k H locs ls hP hS hl)
theorem A_astore_n (C : Cx p s m args c cc nL own B D Y) {j : Fin 4} {i : Nat} {x : Nat} (L' : List (Nat × Value)) (hi : (j : Nat) = i) (hn : i < nL) (ks : List Nat) (hl2 : lv_pick ((i, Value.ref x) :: L.filter (fun q => !(q.1 == i) && !(q.1 + 1 == i && q.2.category == 2))) ks = L') (hd : decode cc pc = .ok (.astore_n j, 1)) (k : At p l e R s m args below meth c nL cells slots Q B D Y o (pc + 1) M L' rest) : At p l e R s m args below meth c nL cells slots Q B D Y o pc M L (.ref x :: rest) := fun H locs ls hP hS hl => lv_astore_n C.1 C.2.1 hd hi hl hn rfl (fun ls hl => k H locs ls hP hS (lv_sub hl ks hl2))
theorem A_astore (C : Cx p s m args c cc nL own B D Y) {i : Nat} {x : Nat} (L' : List (Nat × Value)) (hn : i < nL) (ks : List Nat) (hl2 : lv_pick ((i, Value.ref x) :: L.filter (fun q => !(q.1 == i) && !(q.1 + 1 == i && q.2.category == 2))) ks = L') (hd : decode cc pc = .ok (.astore i, 2)) (k : At p l e R s m args below meth c nL cells slots Q B D Y o (pc + 2) M L' rest) : At p l e R s m args below meth c nL cells slots Q B D Y o pc M L (.ref x :: rest) := fun H locs ls hP hS hl => lv_astore C.1 C.2.1 hd hl hn rfl (fun ls hl => k H locs ls hP hS (lv_sub hl ks hl2))
theorem A_dload_n (C : Cx p s m args c cc nL own B D Y) {j : Fin 4} {x : UInt64} (k0 : Nat) (hk : L[k0]? = some ((j : Nat), .double x)) (hd : decode cc pc = .ok (.dload_n j, 1)) (k : At p l e R s m args below meth c nL cells slots Q B D Y o (pc + 1) M L (.double x :: rest)) : At p l e R s m args below meth c nL cells slots Q B D Y o pc M L rest := fun H locs ls hP hS hl => lv_dload_n C.1 C.2.1 hd rfl (lv_at hl k0 hk) (k H locs ls hP hS hl)
theorem A_dload (C : Cx p s m args c cc nL own B D Y) {j : Nat} {x : UInt64} (k0 : Nat) (hk : L[k0]? = some (j, .double x)) (hd : decode cc pc = .ok (.dload j, 2)) (k : At p l e R s m args below meth c nL cells slots Q B D Y o (pc + 2) M L (.double x :: rest)) : At p l e R s m args below meth c nL cells slots Q B D Y o pc M L rest := fun H locs ls hP hS hl => lv_dload C.1 C.2.1 hd (lv_at hl k0 hk) (k H locs ls hP hS hl)
theorem A_dstore_n (C : Cx p s m args c cc nL own B D Y) {j : Fin 4} {i : Nat} {x : UInt64} (L' : List (Nat × Value)) (hi : (j : Nat) = i) (hn : i + 1 < nL) (ks : List Nat) (hl2 : lv_pick ((i, Value.double x) :: L.filter (fun q => !(q.1 == i) && (!(q.1 == i + 1) && !(q.1 + 1 == i && q.2.category == 2)))) ks = L') (hd : decode cc pc = .ok (.dstore_n j, 1)) (k : At p l e R s m args below meth c nL cells slots Q B D Y o (pc + 1) M L' rest) : At p l e R s m args below meth c nL cells slots Q B D Y o pc M L (.double x :: rest) := fun H locs ls hP hS hl => lv_dstore_n C.1 C.2.1 hd hi hl hn rfl (fun ls hl => k H locs ls hP hS (lv_sub hl ks hl2))
theorem A_dstore (C : Cx p s m args c cc nL own B D Y) {i : Nat} {x : UInt64} (L' : List (Nat × Value)) (hn : i + 1 < nL) (ks : List Nat) (hl2 : lv_pick ((i, Value.double x) :: L.filter (fun q => !(q.1 == i) && (!(q.1 == i + 1) && !(q.1 + 1 == i && q.2.category == 2)))) ks = L') (hd : decode cc pc = .ok (.dstore i, 2)) (k : At p l e R s m args below meth c nL cells slots Q B D Y o (pc + 2) M L' rest) : At p l e R s m args below meth c nL cells slots Q B D Y o pc M L (.double x :: rest) := fun H locs ls hP hS hl => lv_dstore C.1 C.2.1 hd hl hn rfl (fun ls hl => k H locs ls hP hS (lv_sub hl ks hl2))
theorem A_fload_n (C : Cx p s m args c cc nL own B D Y) {j : Fin 4} {x : UInt32} (k0 : Nat) (hk : L[k0]? = some ((j : Nat), .float x)) (hd : decode cc pc = .ok (.fload_n j, 1)) (k : At p l e R s m args below meth c nL cells slots Q B D Y o (pc + 1) M L (.float x :: rest)) : At p l e R s m args below meth c nL cells slots Q B D Y o pc M L rest := fun H locs ls hP hS hl => lv_fload_n C.1 C.2.1 hd rfl (lv_at hl k0 hk) (k H locs ls hP hS hl)
theorem A_fload (C : Cx p s m args c cc nL own B D Y) {j : Nat} {x : UInt32} (k0 : Nat) (hk : L[k0]? = some (j, .float x)) (hd : decode cc pc = .ok (.fload j, 2)) (k : At p l e R s m args below meth c nL cells slots Q B D Y o (pc + 2) M L (.float x :: rest)) : At p l e R s m args below meth c nL cells slots Q B D Y o pc M L rest := fun H locs ls hP hS hl => lv_fload C.1 C.2.1 hd (lv_at hl k0 hk) (k H locs ls hP hS hl)
theorem A_fstore_n (C : Cx p s m args c cc nL own B D Y) {j : Fin 4} {i : Nat} {x : UInt32} (L' : List (Nat × Value)) (hi : (j : Nat) = i) (hn : i < nL) (ks : List Nat) (hl2 : lv_pick ((i, Value.float x) :: L.filter (fun q => !(q.1 == i) && !(q.1 + 1 == i && q.2.category == 2))) ks = L') (hd : decode cc pc = .ok (.fstore_n j, 1)) (k : At p l e R s m args below meth c nL cells slots Q B D Y o (pc + 1) M L' rest) : At p l e R s m args below meth c nL cells slots Q B D Y o pc M L (.float x :: rest) := fun H locs ls hP hS hl => lv_fstore_n C.1 C.2.1 hd hi hl hn rfl (fun ls hl => k H locs ls hP hS (lv_sub hl ks hl2))
theorem A_fstore (C : Cx p s m args c cc nL own B D Y) {i : Nat} {x : UInt32} (L' : List (Nat × Value)) (hn : i < nL) (ks : List Nat) (hl2 : lv_pick ((i, Value.float x) :: L.filter (fun q => !(q.1 == i) && !(q.1 + 1 == i && q.2.category == 2))) ks = L') (hd : decode cc pc = .ok (.fstore i, 2)) (k : At p l e R s m args below meth c nL cells slots Q B D Y o (pc + 2) M L' rest) : At p l e R s m args below meth c nL cells slots Q B D Y o pc M L (.float x :: rest) := fun H locs ls hP hS hl => lv_fstore C.1 C.2.1 hd hl hn rfl (fun ls hl => k H locs ls hP hS (lv_sub hl ks hl2))
theorem A_iinc (C : Cx p s m args c cc nL own B D Y) {i k0 : Nat} {z : Int} {x v : Int32} (L' : List (Nat × Value)) (hk : L[k0]? = some (i, .int x)) (hv : x + Int32.ofInt z = v) (hn : i < nL) (ks : List Nat) (hl2 : lv_pick ((i, Value.int v) :: L.filter (fun q => !(q.1 == i) && !(q.1 + 1 == i && q.2.category == 2))) ks = L') (hd : decode cc pc = .ok (.iinc i z, 3)) (k : At p l e R s m args below meth c nL cells slots Q B D Y o (pc + 3) M L' rest) : At p l e R s m args below meth c nL cells slots Q B D Y o pc M L rest := fun H locs ls hP hS hl => lv_iinc C.1 C.2.1 hd hl hk hv hn rfl (fun ls hl => k H locs ls hP hS (lv_sub hl ks hl2))
theorem A_iadd (C : Cx p s m args c cc nL own B D Y) {x y : Int32} (hd : decode cc pc = .ok (.iadd, 1)) (k : At p l e R s m args below meth c nL cells slots Q B D Y o (pc + 1) M L (.int (x + y) :: rest)) : At p l e R s m args below meth c nL cells slots Q B D Y o pc M L (.int y :: .int x :: rest) := fun H locs ls hP hS hl => lv_iadd C.1 C.2.1 hd (k H locs ls hP hS hl)
theorem A_isub (C : Cx p s m args c cc nL own B D Y) {x y : Int32} (hd : decode cc pc = .ok (.isub, 1)) (k : At p l e R s m args below meth c nL cells slots Q B D Y o (pc + 1) M L (.int (x - y) :: rest)) : At p l e R s m args below meth c nL cells slots Q B D Y o pc M L (.int y :: .int x :: rest) := fun H locs ls hP hS hl => lv_isub C.1 C.2.1 hd (k H locs ls hP hS hl)
theorem A_imul (C : Cx p s m args c cc nL own B D Y) {x y : Int32} (hd : decode cc pc = .ok (.imul, 1)) (k : At p l e R s m args below meth c nL cells slots Q B D Y o (pc + 1) M L (.int (x * y) :: rest)) : At p l e R s m args below meth c nL cells slots Q B D Y o pc M L (.int y :: .int x :: rest) := fun H locs ls hP hS hl => lv_imul C.1 C.2.1 hd (k H locs ls hP hS hl)
theorem A_iand (C : Cx p s m args c cc nL own B D Y) {x y : Int32} (hd : decode cc pc = .ok (.iand, 1)) (k : At p l e R s m args below meth c nL cells slots Q B D Y o (pc + 1) M L (.int (x &&& y) :: rest)) : At p l e R s m args below meth c nL cells slots Q B D Y o pc M L (.int y :: .int x :: rest) := fun H locs ls hP hS hl => lv_iand C.1 C.2.1 hd (k H locs ls hP hS hl)
theorem A_ior (C : Cx p s m args c cc nL own B D Y) {x y : Int32} (hd : decode cc pc = .ok (.ior, 1)) (k : At p l e R s m args below meth c nL cells slots Q B D Y o (pc + 1) M L (.int (x ||| y) :: rest)) : At p l e R s m args below meth c nL cells slots Q B D Y o pc M L (.int y :: .int x :: rest) := fun H locs ls hP hS hl => lv_ior C.1 C.2.1 hd (k H locs ls hP hS hl)
theorem A_ixor (C : Cx p s m args c cc nL own B D Y) {x y : Int32} (hd : decode cc pc = .ok (.ixor, 1)) (k : At p l e R s m args below meth c nL cells slots Q B D Y o (pc + 1) M L (.int (x ^^^ y) :: rest)) : At p l e R s m args below meth c nL cells slots Q B D Y o pc M L (.int y :: .int x :: rest) := fun H locs ls hP hS hl => lv_ixor C.1 C.2.1 hd (k H locs ls hP hS hl)
theorem A_ladd (C : Cx p s m args c cc nL own B D Y) {x y : Int64} (hd : decode cc pc = .ok (.ladd, 1)) (k : At p l e R s m args below meth c nL cells slots Q B D Y o (pc + 1) M L (.long (x + y) :: rest)) : At p l e R s m args below meth c nL cells slots Q B D Y o pc M L (.long y :: .long x :: rest) := fun H locs ls hP hS hl => lv_ladd C.1 C.2.1 hd (k H locs ls hP hS hl)
theorem A_lmul (C : Cx p s m args c cc nL own B D Y) {x y : Int64} (hd : decode cc pc = .ok (.lmul, 1)) (k : At p l e R s m args below meth c nL cells slots Q B D Y o (pc + 1) M L (.long (x * y) :: rest)) : At p l e R s m args below meth c nL cells slots Q B D Y o pc M L (.long y :: .long x :: rest) := fun H locs ls hP hS hl => lv_lmul C.1 C.2.1 hd (k H locs ls hP hS hl)
theorem A_ineg (C : Cx p s m args c cc nL own B D Y) {x : Int32} (hd : decode cc pc = .ok (.ineg, 1)) (k : At p l e R s m args below meth c nL cells slots Q B D Y o (pc + 1) M L (.int (-x) :: rest)) : At p l e R s m args below meth c nL cells slots Q B D Y o pc M L (.int x :: rest) := fun H locs ls hP hS hl => lv_ineg C.1 C.2.1 hd (k H locs ls hP hS hl)
theorem A_idiv (C : Cx p s m args c cc nL own B D Y) {x y : Int32} (hne : ¬ y = 0) (hd : decode cc pc = .ok (.idiv, 1)) (k : At p l e R s m args below meth c nL cells slots Q B D Y o (pc + 1) M L (.int (x / y) :: rest)) : At p l e R s m args below meth c nL cells slots Q B D Y o pc M L (.int y :: .int x :: rest) := fun H locs ls hP hS hl => lv_idiv C.1 C.2.1 hd hne (k H locs ls hP hS hl)
theorem A_irem (C : Cx p s m args c cc nL own B D Y) {x y : Int32} (hne : ¬ y = 0) (hd : decode cc pc = .ok (.irem, 1)) (k : At p l e R s m args below meth c nL cells slots Q B D Y o (pc + 1) M L (.int (x - x / y * y) :: rest)) : At p l e R s m args below meth c nL cells slots Q B D Y o pc M L (.int y :: .int x :: rest) := fun H locs ls hP hS hl => lv_irem C.1 C.2.1 hd hne (k H locs ls hP hS hl)
theorem A_ishl (C : Cx p s m args c cc nL own B D Y) {x y : Int32} (hd : decode cc pc = .ok (.ishl, 1)) (k : At p l e R s m args below meth c nL cells slots Q B D Y o (pc + 1) M L (.int (x <<< (y &&& 31)) :: rest)) : At p l e R s m args below meth c nL cells slots Q B D Y o pc M L (.int y :: .int x :: rest) := fun H locs ls hP hS hl => lv_ishl C.1 C.2.1 hd (k H locs ls hP hS hl)
theorem A_ishr (C : Cx p s m args c cc nL own B D Y) {x y : Int32} (hd : decode cc pc = .ok (.ishr, 1)) (k : At p l e R s m args below meth c nL cells slots Q B D Y o (pc + 1) M L (.int (x >>> (y &&& 31)) :: rest)) : At p l e R s m args below meth c nL cells slots Q B D Y o pc M L (.int y :: .int x :: rest) := fun H locs ls hP hS hl => lv_ishr C.1 C.2.1 hd (k H locs ls hP hS hl)
theorem A_i2l (C : Cx p s m args c cc nL own B D Y) {x : Int32} (hd : decode cc pc = .ok (.i2l, 1)) (k : At p l e R s m args below meth c nL cells slots Q B D Y o (pc + 1) M L (.long x.toInt64 :: rest)) : At p l e R s m args below meth c nL cells slots Q B D Y o pc M L (.int x :: rest) := fun H locs ls hP hS hl => lv_i2l C.1 C.2.1 hd rfl (k H locs ls hP hS hl)
theorem A_i2c (C : Cx p s m args c cc nL own B D Y) {x : Int32} (hd : decode cc pc = .ok (.i2c, 1)) (k : At p l e R s m args below meth c nL cells slots Q B D Y o (pc + 1) M L (.int (x.toUInt32 % 65536).toInt32 :: rest)) : At p l e R s m args below meth c nL cells slots Q B D Y o pc M L (.int x :: rest) := fun H locs ls hP hS hl => lv_i2c C.1 C.2.1 hd rfl (k H locs ls hP hS hl)
theorem A_dup (C : Cx p s m args c cc nL own B D Y) {v : Value} (hc : v.category = 1) (hd : decode cc pc = .ok (.dup, 1)) (k : At p l e R s m args below meth c nL cells slots Q B D Y o (pc + 1) M L (v :: v :: rest)) : At p l e R s m args below meth c nL cells slots Q B D Y o pc M L (v :: rest) := fun H locs ls hP hS hl => lv_dup C.1 C.2.1 hd hc (k H locs ls hP hS hl)
theorem A_pop (C : Cx p s m args c cc nL own B D Y) {v : Value} (hc : v.category = 1) (hd : decode cc pc = .ok (.pop, 1)) (k : At p l e R s m args below meth c nL cells slots Q B D Y o (pc + 1) M L rest) : At p l e R s m args below meth c nL cells slots Q B D Y o pc M L (v :: rest) := fun H locs ls hP hS hl => lv_pop C.1 C.2.1 hd hc (k H locs ls hP hS hl)
theorem A_dup2 (C : Cx p s m args c cc nL own B D Y) {v w : Value} (hc : v.category = 1) (hc2 : w.category = 1) (hd : decode cc pc = .ok (.dup2, 1)) (k : At p l e R s m args below meth c nL cells slots Q B D Y o (pc + 1) M L (v :: w :: v :: w :: rest)) : At p l e R s m args below meth c nL cells slots Q B D Y o pc M L (v :: w :: rest) := fun H locs ls hP hS hl => lv_dup2_11 C.1 C.2.1 hd hc hc2 (k H locs ls hP hS hl)
theorem A_i2d (C : Cx p s m args c cc nL own B D Y) {x : Int32} (hd : decode cc pc = .ok (.i2d, 1)) (k : At p l e R s m args below meth c nL cells slots Q B D Y o (pc + 1) M L (.double (FP.i2d x) :: rest)) : At p l e R s m args below meth c nL cells slots Q B D Y o pc M L (.int x :: rest) := fun H locs ls hP hS hl => lv_i2d C.1 C.2.1 hd (k H locs ls hP hS hl)
theorem A_i2f (C : Cx p s m args c cc nL own B D Y) {x : Int32} (hd : decode cc pc = .ok (.i2f, 1)) (k : At p l e R s m args below meth c nL cells slots Q B D Y o (pc + 1) M L (.float (FP.i2f x) :: rest)) : At p l e R s m args below meth c nL cells slots Q B D Y o pc M L (.int x :: rest) := fun H locs ls hP hS hl => lv_i2f C.1 C.2.1 hd (k H locs ls hP hS hl)
theorem A_ddiv (C : Cx p s m args c cc nL own B D Y) {x y : UInt64} (hn : vf_n64 (FP.ddiv x y)) (hd : decode cc pc = .ok (.ddiv, 1)) (k : At p l e R s m args below meth c nL cells slots Q B D Y o (pc + 1) M L (.double (FP.ddiv x y) :: rest)) : At p l e R s m args below meth c nL cells slots Q B D Y o pc M L (.double y :: .double x :: rest) := fun H locs ls hP hS hl => lv_ddiv C.1 C.2.1 hd hn (k H locs ls hP hS hl)
theorem A_fdiv (C : Cx p s m args c cc nL own B D Y) {x y : UInt32} (hn : vf_n32 (FP.fdiv x y)) (hd : decode cc pc = .ok (.fdiv, 1)) (k : At p l e R s m args below meth c nL cells slots Q B D Y o (pc + 1) M L (.float (FP.fdiv x y) :: rest)) : At p l e R s m args below meth c nL cells slots Q B D Y o pc M L (.float y :: .float x :: rest) := fun H locs ls hP hS hl => lv_fdiv C.1 C.2.1 hd hn (k H locs ls hP hS hl)
theorem A_f2d (C : Cx p s m args c cc nL own B D Y) {x : UInt32} (hn : vf_n64 (FP.f2d x)) (hd : decode cc pc = .ok (.f2d, 1)) (k : At p l e R s m args below meth c nL cells slots Q B D Y o (pc + 1) M L (.double (FP.f2d x) :: rest)) : At p l e R s m args below meth c nL cells slots Q B D Y o pc M L (.float x :: rest) := fun H locs ls hP hS hl => lv_f2d C.1 C.2.1 hd hn (k H locs ls hP hS hl)
theorem A_icmp_eq (C : Cx p s m args c cc nL own B D Y) {x y : Int32} {off : Int} (tgt : Nat) (ht : (pc : Int) + off = (tgt : Int)) (hd : decode cc pc = .ok (.if_icmp .eq off, 3)) {α : Type} {X Z : Option α} {r : α} (hf : (if x = y then X else Z) = some r) (k1 : (x = y) → X = some r → At p l e R s m args below meth c nL cells slots Q B D Y o tgt M L rest) (k2 : ¬ (x = y) → Z = some r → At p l e R s m args below meth c nL cells slots Q B D Y o (pc + 3) M L rest) : At p l e R s m args below meth c nL cells slots Q B D Y o pc M L (.int y :: .int x :: rest) := fun H locs ls hP hS hl => lv_icmp_eq C.1 C.2.1 hd ht (fun z => k1 z (by rwa [if_pos z] at hf) H locs ls hP hS hl) (fun z => k2 z (by rwa [if_neg z] at hf) H locs ls hP hS hl)
theorem A_icmp_ne (C : Cx p s m args c cc nL own B D Y) {x y : Int32} {off : Int} (tgt : Nat) (ht : (pc : Int) + off = (tgt : Int)) (hd : decode cc pc = .ok (.if_icmp .ne off, 3)) {α : Type} {X Z : Option α} {r : α} (hf : (if x = y then X else Z) = some r) (k1 : ¬ x = y → Z = some r → At p l e R s m args below meth c nL cells slots Q B D Y o tgt M L rest) (k2 : x = y → X = some r → At p l e R s m args below meth c nL cells slots Q B D Y o (pc + 3) M L rest) : At p l e R s m args below meth c nL cells slots Q B D Y o pc M L (.int y :: .int x :: rest) := fun H locs ls hP hS hl => lv_icmp_ne C.1 C.2.1 hd ht (fun z => k1 z (by rwa [if_neg z] at hf) H locs ls hP hS hl) (fun z => k2 z (by rwa [if_pos z] at hf) H locs ls hP hS hl)
theorem A_icmp_lt (C : Cx p s m args c cc nL own B D Y) {x y : Int32} {off : Int} (tgt : Nat) (ht : (pc : Int) + off = (tgt : Int)) (hd : decode cc pc = .ok (.if_icmp .lt off, 3)) {α : Type} {X Z : Option α} {r : α} (hf : (if x < y then X else Z) = some r) (k1 : (x < y) → X = some r → At p l e R s m args below meth c nL cells slots Q B D Y o tgt M L rest) (k2 : ¬ (x < y) → Z = some r → At p l e R s m args below meth c nL cells slots Q B D Y o (pc + 3) M L rest) : At p l e R s m args below meth c nL cells slots Q B D Y o pc M L (.int y :: .int x :: rest) := fun H locs ls hP hS hl => lv_icmp_lt C.1 C.2.1 hd ht (fun z => k1 z (by rwa [if_pos z] at hf) H locs ls hP hS hl) (fun z => k2 z (by rwa [if_neg z] at hf) H locs ls hP hS hl)
theorem A_icmp_ge (C : Cx p s m args c cc nL own B D Y) {x y : Int32} {off : Int} (tgt : Nat) (ht : (pc : Int) + off = (tgt : Int)) (hd : decode cc pc = .ok (.if_icmp .ge off, 3)) {α : Type} {X Z : Option α} {r : α} (hf : (if y ≤ x then X else Z) = some r) (k1 : (y ≤ x) → X = some r → At p l e R s m args below meth c nL cells slots Q B D Y o tgt M L rest) (k2 : ¬ (y ≤ x) → Z = some r → At p l e R s m args below meth c nL cells slots Q B D Y o (pc + 3) M L rest) : At p l e R s m args below meth c nL cells slots Q B D Y o pc M L (.int y :: .int x :: rest) := fun H locs ls hP hS hl => lv_icmp_ge C.1 C.2.1 hd ht (fun z => k1 z (by rwa [if_pos z] at hf) H locs ls hP hS hl) (fun z => k2 z (by rwa [if_neg z] at hf) H locs ls hP hS hl)
theorem A_icmp_gt (C : Cx p s m args c cc nL own B D Y) {x y : Int32} {off : Int} (tgt : Nat) (ht : (pc : Int) + off = (tgt : Int)) (hd : decode cc pc = .ok (.if_icmp .gt off, 3)) {α : Type} {X Z : Option α} {r : α} (hf : (if y < x then X else Z) = some r) (k1 : (y < x) → X = some r → At p l e R s m args below meth c nL cells slots Q B D Y o tgt M L rest) (k2 : ¬ (y < x) → Z = some r → At p l e R s m args below meth c nL cells slots Q B D Y o (pc + 3) M L rest) : At p l e R s m args below meth c nL cells slots Q B D Y o pc M L (.int y :: .int x :: rest) := fun H locs ls hP hS hl => lv_icmp_gt C.1 C.2.1 hd ht (fun z => k1 z (by rwa [if_pos z] at hf) H locs ls hP hS hl) (fun z => k2 z (by rwa [if_neg z] at hf) H locs ls hP hS hl)
theorem A_icmp_le (C : Cx p s m args c cc nL own B D Y) {x y : Int32} {off : Int} (tgt : Nat) (ht : (pc : Int) + off = (tgt : Int)) (hd : decode cc pc = .ok (.if_icmp .le off, 3)) {α : Type} {X Z : Option α} {r : α} (hf : (if x ≤ y then X else Z) = some r) (k1 : (x ≤ y) → X = some r → At p l e R s m args below meth c nL cells slots Q B D Y o tgt M L rest) (k2 : ¬ (x ≤ y) → Z = some r → At p l e R s m args below meth c nL cells slots Q B D Y o (pc + 3) M L rest) : At p l e R s m args below meth c nL cells slots Q B D Y o pc M L (.int y :: .int x :: rest) := fun H locs ls hP hS hl => lv_icmp_le C.1 C.2.1 hd ht (fun z => k1 z (by rwa [if_pos z] at hf) H locs ls hP hS hl) (fun z => k2 z (by rwa [if_neg z] at hf) H locs ls hP hS hl)
theorem A_if_eq (C : Cx p s m args c cc nL own B D Y) {x : Int32} {off : Int} (tgt : Nat) (ht : (pc : Int) + off = (tgt : Int)) (hd : decode cc pc = .ok (.ifCond .eq off, 3)) {α : Type} {X Z : Option α} {r : α} (hf : (if x = 0 then X else Z) = some r) (k1 : (x = 0) → X = some r → At p l e R s m args below meth c nL cells slots Q B D Y o tgt M L rest) (k2 : ¬ (x = 0) → Z = some r → At p l e R s m args below meth c nL cells slots Q B D Y o (pc + 3) M L rest) : At p l e R s m args below meth c nL cells slots Q B D Y o pc M L (.int x :: rest) := fun H locs ls hP hS hl => lv_if_eq C.1 C.2.1 hd ht (fun z => k1 z (by rwa [if_pos z] at hf) H locs ls hP hS hl) (fun z => k2 z (by rwa [if_neg z] at hf) H locs ls hP hS hl)
theorem A_if_ne (C : Cx p s m args c cc nL own B D Y) {x : Int32} {off : Int} (tgt : Nat) (ht : (pc : Int) + off = (tgt : Int)) (hd : decode cc pc = .ok (.ifCond .ne off, 3)) {α : Type} {X Z : Option α} {r : α} (hf : (if x = 0 then X else Z) = some r) (k1 : ¬ x = 0 → Z = some r → At p l e R s m args below meth c nL cells slots Q B D Y o tgt M L rest) (k2 : x = 0 → X = some r → At p l e R s m args below meth c nL cells slots Q B D Y o (pc + 3) M L rest) : At p l e R s m args below meth c nL cells slots Q B D Y o pc M L (.int x :: rest) := fun H locs ls hP hS hl => lv_if_ne C.1 C.2.1 hd ht (fun z => k1 z (by rwa [if_neg z] at hf) H locs ls hP hS hl) (fun z => k2 z (by rwa [if_pos z] at hf) H locs ls hP hS hl)
theorem A_if_lt (C : Cx p s m args c cc nL own B D Y) {x : Int32} {off : Int} (tgt : Nat) (ht : (pc : Int) + off = (tgt : Int)) (hd : decode cc pc = .ok (.ifCond .lt off, 3)) {α : Type} {X Z : Option α} {r : α} (hf : (if x < 0 then X else Z) = some r) (k1 : (x < 0) → X = some r → At p l e R s m args below meth c nL cells slots Q B D Y o tgt M L rest) (k2 : ¬ (x < 0) → Z = some r → At p l e R s m args below meth c nL cells slots Q B D Y o (pc + 3) M L rest) : At p l e R s m args below meth c nL cells slots Q B D Y o pc M L (.int x :: rest) := fun H locs ls hP hS hl => lv_if_lt C.1 C.2.1 hd ht (fun z => k1 z (by rwa [if_pos z] at hf) H locs ls hP hS hl) (fun z => k2 z (by rwa [if_neg z] at hf) H locs ls hP hS hl)
theorem A_if_ge (C : Cx p s m args c cc nL own B D Y) {x : Int32} {off : Int} (tgt : Nat) (ht : (pc : Int) + off = (tgt : Int)) (hd : decode cc pc = .ok (.ifCond .ge off, 3)) {α : Type} {X Z : Option α} {r : α} (hf : (if 0 ≤ x then X else Z) = some r) (k1 : (0 ≤ x) → X = some r → At p l e R s m args below meth c nL cells slots Q B D Y o tgt M L rest) (k2 : ¬ (0 ≤ x) → Z = some r → At p l e R s m args below meth c nL cells slots Q B D Y o (pc + 3) M L rest) : At p l e R s m args below meth c nL cells slots Q B D Y o pc M L (.int x :: rest) := fun H locs ls hP hS hl => lv_if_ge C.1 C.2.1 hd ht (fun z => k1 z (by rwa [if_pos z] at hf) H locs ls hP hS hl) (fun z => k2 z (by rwa [if_neg z] at hf) H locs ls hP hS hl)
theorem A_if_gt (C : Cx p s m args c cc nL own B D Y) {x : Int32} {off : Int} (tgt : Nat) (ht : (pc : Int) + off = (tgt : Int)) (hd : decode cc pc = .ok (.ifCond .gt off, 3)) {α : Type} {X Z : Option α} {r : α} (hf : (if 0 < x then X else Z) = some r) (k1 : (0 < x) → X = some r → At p l e R s m args below meth c nL cells slots Q B D Y o tgt M L rest) (k2 : ¬ (0 < x) → Z = some r → At p l e R s m args below meth c nL cells slots Q B D Y o (pc + 3) M L rest) : At p l e R s m args below meth c nL cells slots Q B D Y o pc M L (.int x :: rest) := fun H locs ls hP hS hl => lv_if_gt C.1 C.2.1 hd ht (fun z => k1 z (by rwa [if_pos z] at hf) H locs ls hP hS hl) (fun z => k2 z (by rwa [if_neg z] at hf) H locs ls hP hS hl)
theorem A_if_le (C : Cx p s m args c cc nL own B D Y) {x : Int32} {off : Int} (tgt : Nat) (ht : (pc : Int) + off = (tgt : Int)) (hd : decode cc pc = .ok (.ifCond .le off, 3)) {α : Type} {X Z : Option α} {r : α} (hf : (if x ≤ 0 then X else Z) = some r) (k1 : (x ≤ 0) → X = some r → At p l e R s m args below meth c nL cells slots Q B D Y o tgt M L rest) (k2 : ¬ (x ≤ 0) → Z = some r → At p l e R s m args below meth c nL cells slots Q B D Y o (pc + 3) M L rest) : At p l e R s m args below meth c nL cells slots Q B D Y o pc M L (.int x :: rest) := fun H locs ls hP hS hl => lv_if_le C.1 C.2.1 hd ht (fun z => k1 z (by rwa [if_pos z] at hf) H locs ls hP hS hl) (fun z => k2 z (by rwa [if_neg z] at hf) H locs ls hP hS hl)
theorem A_goto (C : Cx p s m args c cc nL own B D Y) {off : Int} (tgt : Nat) (ht : (pc : Int) + off = (tgt : Int)) (hd : decode cc pc = .ok (.goto off, 3)) (k : At p l e R s m args below meth c nL cells slots Q B D Y o tgt M L rest) : At p l e R s m args below meth c nL cells slots Q B D Y o pc M L rest := fun H locs ls hP hS hl => lv_goto C.1 C.2.1 hd ht (k H locs ls hP hS hl)
theorem A_sub (ks : List Nat) (h : lv_pick L ks = L') (k : At p l e R s m args below meth c nL cells slots Q B D Y o pc M L' rest) : At p l e R s m args below meth c nL cells slots Q B D Y o pc M L rest := fun H locs ls hP hS hl => k H locs ls hP hS (lv_sub hl ks h)
theorem A_ldc (C : Cx p s m args c cc nL own B D Y) {idx : Nat} {v : Int32} (hw : Cond.constant own idx v ∈ Tz) (hd : decode cc pc = .ok (.ldc idx, 2)) (k : At p l e R s m args below meth c nL cells slots Q B D Y o (pc + 2) M L (.int v :: rest)) : At p l e R s m args below meth c nL cells slots Q B D Y o pc M L rest := fun H locs ls hP hS hl => lv_ldc C.1 C.2.1 C.2.2.2.1 (C.2.2.2.2.1.use hw) hd (k H locs ls hP hS hl)
theorem A_ldc2 (C : Cx p s m args c cc nL own B D Y) {idx : Nat} {v : Int64} (hw : Cond.constantLong own idx v ∈ Tz) (hd : decode cc pc = .ok (.ldc2_w idx, 3)) (k : At p l e R s m args below meth c nL cells slots Q B D Y o (pc + 3) M L (.long v :: rest)) : At p l e R s m args below meth c nL cells slots Q B D Y o pc M L rest := fun H locs ls hP hS hl => lv_ldc2 C.1 C.2.1 C.2.2.2.1 (C.2.2.2.2.1.use hw) hd (k H locs ls hP hS hl)
theorem A_ldcw (C : Cx p s m args c cc nL own B D Y) {idx : Nat} {v : Int32} (hw : Cond.constant own idx v ∈ Tz) (hd : decode cc pc = .ok (.ldc_w idx, 3)) (k : At p l e R s m args below meth c nL cells slots Q B D Y o (pc + 3) M L (.int v :: rest)) : At p l e R s m args below meth c nL cells slots Q B D Y o pc M L rest := fun H locs ls hP hS hl => lv_ldcw C.1 C.2.1 C.2.2.2.1 (C.2.2.2.2.1.use hw) hd (k H locs ls hP hS hl)
theorem hTz (C0 : Cx p s m args c cc nL own B D Y) : ∀ w ∈ Tz, w.before args s = true := fun w h => C0.2.2.2.2.1.use h
theorem A_get (C : Cx p s m args c cc nL own B D Y) {K : String} {T : u_T} {N ci q idx : Nat} {fs : List Value} {v : Value} (hq : q < 112) (he : ent B Y M o q = .inr (ci, fs)) (hcl : vwCl[ci]? = some (K, T, N)) (hin : ∀ w ∈ u_ws K T N, w ∈ Tz) (j : Nat) (hj : j < N) (hT : (T j).1 = K) (hw : Cond.fieldLink own idx K (T j).2.1 (T j).2.2.1 ∈ Tz) (hv : fs[j]? = some v) (hd : decode cc pc = .ok (.getfield idx, 3)) (k : At p l e R s m args below meth c nL cells slots Q B D Y o (pc + 3) M L (v :: rest)) : At p l e R s m args below meth c nL cells slots Q B D Y o pc M L (.ref (B + q) :: rest) := fun H locs ls hP hS hl =>
  va_get C.1 C.2.1 (hTz C) hin C.2.2.2.1 C.2.2.2.2.2.1 hP q (by rw [WL_at hq, he]) hcl j hj (C.2.2.2.2.1.use hw) (fun x hx => by rw [hT] at hx; exact hx) hv hd (k H locs ls hP hS hl)
theorem A_g0_0 (C : Cx p s m args c cc nL own B D Y) {q idx : Nat} (hq : kd q = 3) (hw : Cond.fieldLink own idx RX0 "ahead" "[I" ∈ Tz) (hd : decode cc pc = .ok (.getfield idx, 3)) (k : At p l e R s m args below meth c nL cells slots Q B D Y o (pc + 3) M L (.ref (B + (q + 1)) :: rest)) : At p l e R s m args below meth c nL cells slots Q B D Y o pc M L (.ref (B + q) :: rest) := A_get C (kC hq).1 (ent3 hq) (K := RX0) (T := TX0) (N := 2) rfl inX0 0 (by decide) rfl hw rfl hd k
theorem A_g0_1 (C : Cx p s m args c cc nL own B D Y) {q idx : Nat} (hq : kd q = 3) (hw : Cond.fieldLink own idx RX0 "searched" "[I" ∈ Tz) (hd : decode cc pc = .ok (.getfield idx, 3)) (k : At p l e R s m args below meth c nL cells slots Q B D Y o (pc + 3) M L (.ref (B + (q + 2)) :: rest)) : At p l e R s m args below meth c nL cells slots Q B D Y o pc M L (.ref (B + q) :: rest) := A_get C (kC hq).1 (ent3 hq) (K := RX0) (T := TX0) (N := 2) rfl inX0 1 (by decide) rfl hw rfl hd k
theorem A_g2_0 (C : Cx p s m args c cc nL own B D Y) {q idx : Nat} (hq : kd q = 5) (hw : Cond.fieldLink own idx RX2 "ofHigh" "[I" ∈ Tz) (hd : decode cc pc = .ok (.getfield idx, 3)) (k : At p l e R s m args below meth c nL cells slots Q B D Y o (pc + 3) M L (.ref (B + (q + 1)) :: rest)) : At p l e R s m args below meth c nL cells slots Q B D Y o pc M L (.ref (B + q) :: rest) := A_get C (kN hq).1 (ent5 hq) (K := RX2) (T := TX2) (N := 1) rfl inX2 0 (by decide) rfl hw rfl hd k
theorem A_g3_0 (C : Cx p s m args c cc nL own B D Y) {q idx : Nat} (hq : kd q = 2) (hw : Cond.fieldLink own idx RX3 "count" "I" ∈ Tz) (hd : decode cc pc = .ok (.getfield idx, 3)) (k : At p l e R s m args below meth c nL cells slots Q B D Y o (pc + 3) M L (.int (M q 0) :: rest)) : At p l e R s m args below meth c nL cells slots Q B D Y o pc M L (.ref (B + q) :: rest) := A_get C (kO hq).1 (ent2 hq) (K := RX3) (T := TX3) (N := 3) rfl inX3 0 (by decide) rfl hw rfl hd k
theorem A_g3_1 (C : Cx p s m args c cc nL own B D Y) {q idx : Nat} (hq : kd q = 2) (hw : Cond.fieldLink own idx RX3 "below" "[I" ∈ Tz) (hd : decode cc pc = .ok (.getfield idx, 3)) (k : At p l e R s m args below meth c nL cells slots Q B D Y o (pc + 3) M L (.ref (B + (q + 1)) :: rest)) : At p l e R s m args below meth c nL cells slots Q B D Y o pc M L (.ref (B + q) :: rest) := A_get C (kO hq).1 (ent2 hq) (K := RX3) (T := TX3) (N := 3) rfl inX3 1 (by decide) rfl hw rfl hd k
theorem A_g3_2 (C : Cx p s m args c cc nL own B D Y) {q idx : Nat} (hq : kd q = 2) (hw : Cond.fieldLink own idx RX3 "values" "[I" ∈ Tz) (hd : decode cc pc = .ok (.getfield idx, 3)) (k : At p l e R s m args below meth c nL cells slots Q B D Y o (pc + 3) M L (.ref (B + (q + 2)) :: rest)) : At p l e R s m args below meth c nL cells slots Q B D Y o pc M L (.ref (B + q) :: rest) := A_get C (kO hq).1 (ent2 hq) (K := RX3) (T := TX3) (N := 3) rfl inX3 2 (by decide) rfl hw rfl hd k
theorem A_g4_0 (C : Cx p s m args c cc nL own B D Y) {q idx : Nat} (hq : kd q = 4) (hw : Cond.fieldLink own idx RX4 "waysTo" "[I" ∈ Tz) (hd : decode cc pc = .ok (.getfield idx, 3)) (k : At p l e R s m args below meth c nL cells slots Q B D Y o (pc + 3) M L (.ref (B + (q + 1)) :: rest)) : At p l e R s m args below meth c nL cells slots Q B D Y o pc M L (.ref (B + q) :: rest) := A_get C (kR hq).1 (ent4 hq) (K := RX4) (T := TX4) (N := 3) rfl inX4 0 (by decide) rfl hw rfl hd k
theorem A_g4_1 (C : Cx p s m args c cc nL own B D Y) {q idx : Nat} (hq : kd q = 4) (hw : Cond.fieldLink own idx RX4 "waysOn" "[I" ∈ Tz) (hd : decode cc pc = .ok (.getfield idx, 3)) (k : At p l e R s m args below meth c nL cells slots Q B D Y o (pc + 3) M L (.ref (B + (q + 2)) :: rest)) : At p l e R s m args below meth c nL cells slots Q B D Y o pc M L (.ref (B + q) :: rest) := A_get C (kR hq).1 (ent4 hq) (K := RX4) (T := TX4) (N := 3) rfl inX4 1 (by decide) rfl hw rfl hd k
theorem A_g4_2 (C : Cx p s m args c cc nL own B D Y) {q idx : Nat} (hq : kd q = 4) (hw : Cond.fieldLink own idx RX4 "line" "[I" ∈ Tz) (hd : decode cc pc = .ok (.getfield idx, 3)) (k : At p l e R s m args below meth c nL cells slots Q B D Y o (pc + 3) M L (.ref (B + (q + 3)) :: rest)) : At p l e R s m args below meth c nL cells slots Q B D Y o pc M L (.ref (B + q) :: rest) := A_get C (kR hq).1 (ent4 hq) (K := RX4) (T := TX4) (N := 3) rfl inX4 2 (by decide) rfl hw rfl hd k
theorem A_g5_0 (C : Cx p s m args c cc nL own B D Y) {idx : Nat} (hw : Cond.fieldLink own idx RX5 "tried" "LBelowhouse$Order;" ∈ Tz) (hd : decode cc pc = .ok (.getfield idx, 3)) (k : At p l e R s m args below meth c nL cells slots Q B D Y o (pc + 3) M L (.ref (B + 27) :: rest)) : At p l e R s m args below meth c nL cells slots Q B D Y o pc M L (.ref (B + 26) :: rest) := A_get C (q := 26) (by decide) (M := M) rfl (K := RX5) (T := TX5) (N := 7) rfl inX5 0 (by decide) rfl hw rfl hd k
theorem A_g5_1 (C : Cx p s m args c cc nL own B D Y) {idx : Nat} (hw : Cond.fieldLink own idx RX5 "turned" "LBelowhouse$Order;" ∈ Tz) (hd : decode cc pc = .ok (.getfield idx, 3)) (k : At p l e R s m args below meth c nL cells slots Q B D Y o (pc + 3) M L (.ref (B + 30) :: rest)) : At p l e R s m args below meth c nL cells slots Q B D Y o pc M L (.ref (B + 26) :: rest) := A_get C (q := 26) (by decide) (M := M) rfl (K := RX5) (T := TX5) (N := 7) rfl inX5 1 (by decide) rfl hw rfl hd k
theorem A_g5_2 (C : Cx p s m args c cc nL own B D Y) {idx : Nat} (hw : Cond.fieldLink own idx RX5 "table" "LBelowhouse$RowTable;" ∈ Tz) (hd : decode cc pc = .ok (.getfield idx, 3)) (k : At p l e R s m args below meth c nL cells slots Q B D Y o (pc + 3) M L (.ref (B + 33) :: rest)) : At p l e R s m args below meth c nL cells slots Q B D Y o pc M L (.ref (B + 26) :: rest) := A_get C (q := 26) (by decide) (M := M) rfl (K := RX5) (T := TX5) (N := 7) rfl inX5 2 (by decide) rfl hw rfl hd k
theorem A_g5_3 (C : Cx p s m args c cc nL own B D Y) {idx : Nat} (hw : Cond.fieldLink own idx RX5 "triedTable" "LBelowhouse$RowTable;" ∈ Tz) (hd : decode cc pc = .ok (.getfield idx, 3)) (k : At p l e R s m args below meth c nL cells slots Q B D Y o (pc + 3) M L (.ref (B + 37) :: rest)) : At p l e R s m args below meth c nL cells slots Q B D Y o pc M L (.ref (B + 26) :: rest) := A_get C (q := 26) (by decide) (M := M) rfl (K := RX5) (T := TX5) (N := 7) rfl inX5 3 (by decide) rfl hw rfl hd k
theorem A_g5_4 (C : Cx p s m args c cc nL own B D Y) {idx : Nat} (hw : Cond.fieldLink own idx RX5 "chains" "LBelowhouse$Chains;" ∈ Tz) (hd : decode cc pc = .ok (.getfield idx, 3)) (k : At p l e R s m args below meth c nL cells slots Q B D Y o (pc + 3) M L (.ref (B + 41) :: rest)) : At p l e R s m args below meth c nL cells slots Q B D Y o pc M L (.ref (B + 26) :: rest) := A_get C (q := 26) (by decide) (M := M) rfl (K := RX5) (T := TX5) (N := 7) rfl inX5 4 (by decide) rfl hw rfl hd k
theorem A_g5_5 (C : Cx p s m args c cc nL own B D Y) {idx : Nat} (hw : Cond.fieldLink own idx RX5 "numbers" "LBelowhouse$Numbers;" ∈ Tz) (hd : decode cc pc = .ok (.getfield idx, 3)) (k : At p l e R s m args below meth c nL cells slots Q B D Y o (pc + 3) M L (.ref (B + 44) :: rest)) : At p l e R s m args below meth c nL cells slots Q B D Y o pc M L (.ref (B + 26) :: rest) := A_get C (q := 26) (by decide) (M := M) rfl (K := RX5) (T := TX5) (N := 7) rfl inX5 5 (by decide) rfl hw rfl hd k
theorem A_g5_6 (C : Cx p s m args c cc nL own B D Y) {idx : Nat} (hw : Cond.fieldLink own idx RX5 "sizes" "[I" ∈ Tz) (hd : decode cc pc = .ok (.getfield idx, 3)) (k : At p l e R s m args below meth c nL cells slots Q B D Y o (pc + 3) M L (.ref (B + 46) :: rest)) : At p l e R s m args below meth c nL cells slots Q B D Y o pc M L (.ref (B + 26) :: rest) := A_get C (q := 26) (by decide) (M := M) rfl (K := RX5) (T := TX5) (N := 7) rfl inX5 6 (by decide) rfl hw rfl hd k
theorem A_g6_0 (C : Cx p s m args c cc nL own B D Y) {idx : Nat} (hw : Cond.fieldLink own idx RX6 "orders" "[LBelowhouse$Order;" ∈ Tz) (hd : decode cc pc = .ok (.getfield idx, 3)) (k : At p l e R s m args below meth c nL cells slots Q B D Y o (pc + 3) M L (.ref (B + 1) :: rest)) : At p l e R s m args below meth c nL cells slots Q B D Y o pc M L (.ref (B + 0) :: rest) := A_get C (q := 0) (by decide) (M := M) rfl (K := RX6) (T := TX6) (N := 6) rfl inX6 0 (by decide) rfl hw rfl hd k
theorem A_g6_1 (C : Cx p s m args c cc nL own B D Y) {idx : Nat} (hw : Cond.fieldLink own idx RX6 "made" "LBelowhouse$Order;" ∈ Tz) (hd : decode cc pc = .ok (.getfield idx, 3)) (k : At p l e R s m args below meth c nL cells slots Q B D Y o (pc + 3) M L (.ref (B + 14) :: rest)) : At p l e R s m args below meth c nL cells slots Q B D Y o pc M L (.ref (B + 0) :: rest) := A_get C (q := 0) (by decide) (M := M) rfl (K := RX6) (T := TX6) (N := 6) rfl inX6 1 (by decide) rfl hw rfl hd k
theorem A_g6_2 (C : Cx p s m args c cc nL own B D Y) {idx : Nat} (hw : Cond.fieldLink own idx RX6 "chains" "LBelowhouse$Chains;" ∈ Tz) (hd : decode cc pc = .ok (.getfield idx, 3)) (k : At p l e R s m args below meth c nL cells slots Q B D Y o (pc + 3) M L (.ref (B + 17) :: rest)) : At p l e R s m args below meth c nL cells slots Q B D Y o pc M L (.ref (B + 0) :: rest) := A_get C (q := 0) (by decide) (M := M) rfl (K := RX6) (T := TX6) (N := 6) rfl inX6 2 (by decide) rfl hw rfl hd k
theorem A_g6_3 (C : Cx p s m args c cc nL own B D Y) {idx : Nat} (hw : Cond.fieldLink own idx RX6 "table" "LBelowhouse$RowTable;" ∈ Tz) (hd : decode cc pc = .ok (.getfield idx, 3)) (k : At p l e R s m args below meth c nL cells slots Q B D Y o (pc + 3) M L (.ref (B + 20) :: rest)) : At p l e R s m args below meth c nL cells slots Q B D Y o pc M L (.ref (B + 0) :: rest) := A_get C (q := 0) (by decide) (M := M) rfl (K := RX6) (T := TX6) (N := 6) rfl inX6 3 (by decide) rfl hw rfl hd k
theorem A_g6_4 (C : Cx p s m args c cc nL own B D Y) {idx : Nat} (hw : Cond.fieldLink own idx RX6 "numbers" "LBelowhouse$Numbers;" ∈ Tz) (hd : decode cc pc = .ok (.getfield idx, 3)) (k : At p l e R s m args below meth c nL cells slots Q B D Y o (pc + 3) M L (.ref (B + 24) :: rest)) : At p l e R s m args below meth c nL cells slots Q B D Y o pc M L (.ref (B + 0) :: rest) := A_get C (q := 0) (by decide) (M := M) rfl (K := RX6) (T := TX6) (N := 6) rfl inX6 4 (by decide) rfl hw rfl hd k
theorem A_g6_5 (C : Cx p s m args c cc nL own B D Y) {idx : Nat} (hw : Cond.fieldLink own idx RX6 "theorem" "LBelowhouse$Theorem;" ∈ Tz) (hd : decode cc pc = .ok (.getfield idx, 3)) (k : At p l e R s m args below meth c nL cells slots Q B D Y o (pc + 3) M L (.ref (B + 26) :: rest)) : At p l e R s m args below meth c nL cells slots Q B D Y o pc M L (.ref (B + 0) :: rest) := A_get C (q := 0) (by decide) (M := M) rfl (K := RX6) (T := TX6) (N := 6) rfl inX6 5 (by decide) rfl hw rfl hd k
theorem A_g7_0 (C : Cx p s m args c cc nL own B D Y) {idx : Nat} (hw : Cond.fieldLink own idx RX7 "things" "[I" ∈ Tz) (hd : decode cc pc = .ok (.getfield idx, 3)) (k : At p l e R s m args below meth c nL cells slots Q B D Y o (pc + 3) M L (.ref (B + 48) :: rest)) : At p l e R s m args below meth c nL cells slots Q B D Y o pc M L (.ref (B + 47) :: rest) := A_get C (q := 47) (by decide) (M := M) rfl (K := RX7) (T := TX7) (N := 8) rfl inX7 0 (by decide) rfl hw rfl hd k
theorem A_g7_1 (C : Cx p s m args c cc nL own B D Y) {idx : Nat} (hw : Cond.fieldLink own idx RX7 "values" "[[I" ∈ Tz) (hd : decode cc pc = .ok (.getfield idx, 3)) (k : At p l e R s m args below meth c nL cells slots Q B D Y o (pc + 3) M L (.ref (B + 49) :: rest)) : At p l e R s m args below meth c nL cells slots Q B D Y o pc M L (.ref (B + 47) :: rest) := A_get C (q := 47) (by decide) (M := M) rfl (K := RX7) (T := TX7) (N := 8) rfl inX7 1 (by decide) rfl hw rfl hd k
theorem A_g7_2 (C : Cx p s m args c cc nL own B D Y) {idx : Nat} (hw : Cond.fieldLink own idx RX7 "below" "[[[Z" ∈ Tz) (hd : decode cc pc = .ok (.getfield idx, 3)) (k : At p l e R s m args below meth c nL cells slots Q B D Y o (pc + 3) M L (.ref (B + 55) :: rest)) : At p l e R s m args below meth c nL cells slots Q B D Y o pc M L (.ref (B + 47) :: rest) := A_get C (q := 47) (by decide) (M := M) rfl (K := RX7) (T := TX7) (N := 8) rfl inX7 2 (by decide) rfl hw rfl hd k
theorem A_g7_3 (C : Cx p s m args c cc nL own B D Y) {idx : Nat} (hw : Cond.fieldLink own idx RX7 "code" "I" ∈ Tz) (hd : decode cc pc = .ok (.getfield idx, 3)) (k : At p l e R s m args below meth c nL cells slots Q B D Y o (pc + 3) M L (.int (M 47 3) :: rest)) : At p l e R s m args below meth c nL cells slots Q B D Y o pc M L (.ref (B + 47) :: rest) := A_get C (q := 47) (by decide) (M := M) rfl (K := RX7) (T := TX7) (N := 8) rfl inX7 3 (by decide) rfl hw rfl hd k
theorem A_g7_4 (C : Cx p s m args c cc nL own B D Y) {idx : Nat} (hw : Cond.fieldLink own idx RX7 "ways" "[I" ∈ Tz) (hd : decode cc pc = .ok (.getfield idx, 3)) (k : At p l e R s m args below meth c nL cells slots Q B D Y o (pc + 3) M L (.ref (B + 106) :: rest)) : At p l e R s m args below meth c nL cells slots Q B D Y o pc M L (.ref (B + 47) :: rest) := A_get C (q := 47) (by decide) (M := M) rfl (K := RX7) (T := TX7) (N := 8) rfl inX7 4 (by decide) rfl hw rfl hd k
theorem A_g7_5 (C : Cx p s m args c cc nL own B D Y) {idx : Nat} (hw : Cond.fieldLink own idx RX7 "parts" "[I" ∈ Tz) (hd : decode cc pc = .ok (.getfield idx, 3)) (k : At p l e R s m args below meth c nL cells slots Q B D Y o (pc + 3) M L (.ref (B + 107) :: rest)) : At p l e R s m args below meth c nL cells slots Q B D Y o pc M L (.ref (B + 47) :: rest) := A_get C (q := 47) (by decide) (M := M) rfl (K := RX7) (T := TX7) (N := 8) rfl inX7 5 (by decide) rfl hw rfl hd k
theorem A_g7_6 (C : Cx p s m args c cc nL own B D Y) {idx : Nat} (hw : Cond.fieldLink own idx RX7 "line" "[I" ∈ Tz) (hd : decode cc pc = .ok (.getfield idx, 3)) (k : At p l e R s m args below meth c nL cells slots Q B D Y o (pc + 3) M L (.ref (B + 108) :: rest)) : At p l e R s m args below meth c nL cells slots Q B D Y o pc M L (.ref (B + 47) :: rest) := A_get C (q := 47) (by decide) (M := M) rfl (K := RX7) (T := TX7) (N := 8) rfl inX7 6 (by decide) rfl hw rfl hd k
theorem A_g7_7 (C : Cx p s m args c cc nL own B D Y) {idx : Nat} (hw : Cond.fieldLink own idx RX7 "lows" "[I" ∈ Tz) (hd : decode cc pc = .ok (.getfield idx, 3)) (k : At p l e R s m args below meth c nL cells slots Q B D Y o (pc + 3) M L (.ref (B + 109) :: rest)) : At p l e R s m args below meth c nL cells slots Q B D Y o pc M L (.ref (B + 47) :: rest) := A_get C (q := 47) (by decide) (M := M) rfl (K := RX7) (T := TX7) (N := 8) rfl inX7 7 (by decide) rfl hw rfl hd k
theorem A_p3_0 (C : Cx p s m args c cc nL own B D Y) {q idx : Nat} {x : Int32} (hq : kd q = 2) (hw : Cond.fieldLink own idx RX3 "count" "I" ∈ Tz) (hd : decode cc pc = .ok (.putfield idx, 3)) (k : At p l e R s m args below meth c nL cells slots Q B D Y o (pc + 3) (upM M q 0 x) L rest) : At p l e R s m args below meth c nL cells slots Q B D Y o pc M L (.int x :: .ref (B + q) :: rest) := fun H locs ls hP hS hl =>
  va_put C.1 C.2.1 (hTz C) (C := RX3) (T := TX3) (N := 3) inX3 tyX3 tyX3_ok nmX3 C.2.2.2.1 C.2.2.2.2.2.1 hP (WL_D B Y M o) hS q (fs := [.int (M q 0), .ref (B + (q + 1)), .ref (B + (q + 2))]) (by rw [WL_at (kO hq).1]; exact congrArg (fun z => some (B + q, z)) (ent2 hq)) (ci := 2) rfl 0 (by decide) (C.2.2.2.2.1.use hw) (fun x hx => hx) rfl (ty := .int) rfl rfl rfl (show 0 < 3 from by decide) hd (fun H1 locs1 hP1 _ hS1 => k H1 locs1 ls (by
    have e := WL_set (B := B) (Y := Y) (M := M) (M' := upM M q 0 x) (o := o) (o' := o) (kO hq).1 (e := .inr (2, ([.int (M q 0), .ref (B + (q + 1)), .ref (B + (q + 2))]).set 0 (.int x))) (by rw [ent2 hq]; simp [upM]) (fun a ha => upM_ne ha) (Or.inl rfl)
    rw [← e]; exact hP1) hS1 hl)
theorem A_p7_3 (C : Cx p s m args c cc nL own B D Y) {idx : Nat} {x : Int32}  (hw : Cond.fieldLink own idx RX7 "code" "I" ∈ Tz) (hd : decode cc pc = .ok (.putfield idx, 3)) (k : At p l e R s m args below meth c nL cells slots Q B D Y o (pc + 3) (upM M 47 3 x) L rest) : At p l e R s m args below meth c nL cells slots Q B D Y o pc M L (.int x :: .ref (B + 47) :: rest) := fun H locs ls hP hS hl =>
  va_put C.1 C.2.1 (hTz C) (C := RX7) (T := TX7) (N := 8) inX7 tyX7 tyX7_ok nmX7 C.2.2.2.1 C.2.2.2.2.2.1 hP (WL_D B Y M o) hS 47 (fs := [.ref (B + 48), .ref (B + 49), .ref (B + 55), .int (M 47 3), .ref (B + 106), .ref (B + 107), .ref (B + 108), .ref (B + 109)]) (by rw [WL_at (by decide)]; exact congrArg (fun z => some (B + 47, z)) (show ent B Y M o 47 = _ from rfl)) (ci := 6) rfl 3 (by decide) (C.2.2.2.2.1.use hw) (fun x hx => hx) rfl (ty := .int) rfl rfl rfl (show 3 < 8 from by decide) hd (fun H1 locs1 hP1 _ hS1 => k H1 locs1 ls (by
    have e := WL_set (B := B) (Y := Y) (M := M) (M' := upM M 47 3 x) (o := o) (o' := o) (by decide) (e := .inr (6, ([.ref (B + 48), .ref (B + 49), .ref (B + 55), .int (M 47 3), .ref (B + 106), .ref (B + 107), .ref (B + 108), .ref (B + 109)]).set 3 (.int x))) (by simp [ent, upM, show kd 47 = 8 from rfl]) (fun a ha => upM_ne ha) (Or.inl rfl)
    rw [← e]; exact hP1) hS1 hl)
theorem A_iald (C : Cx p s m args c cc nL own B D Y) {q n : Nat} {i : Int32} (hq : IA q n) (hi : inb i n = true) (hd : decode cc pc = .ok (.iaload, 1)) (k : At p l e R s m args below meth c nL cells slots Q B D Y o (pc + 1) M L (.int (M q i.toNatClampNeg) :: rest)) : At p l e R s m args below meth c nL cells slots Q B D Y o pc M L (.int i :: .ref (B + q) :: rest) := fun H locs ls hP hS hl => by
  have hc : H[B + q]? = some (arrV (Y 0) n (fun j => .int (M q j))) := by
    have h0 := hP q _ (WL_at (IA_lt hq))
    rw [ent0 hq.1, hq.2] at h0
    exact h0
  have hlt := inb_lt hi
  exact W.iald (v := .int (M q i.toNatClampNeg)) C.1 C.2.1 hc (C.2.2.2.2.2.2.1 0 .int rfl n _) (fun z => by cases z) (by rw [arrV_size]; exact inb_in hi) (by rw [arrV_read _ _ hlt]) rfl rfl hd (k H locs ls hP hS hl)
theorem A_zald (C : Cx p s m args c cc nL own B D Y) {q : Nat} {i : Int32} (hq : ZA q) (hi : inb i 9 = true) (hd : decode cc pc = .ok (.baload, 1)) (k : At p l e R s m args below meth c nL cells slots Q B D Y o (pc + 1) M L (.int (M q i.toNatClampNeg) :: rest)) : At p l e R s m args below meth c nL cells slots Q B D Y o pc M L (.int i :: .ref (B + q) :: rest) := fun H locs ls hP hS hl => by
  have hc : H[B + q]? = some (arrV (Y 1) 9 (fun j => .int (M q j))) := by
    have h0 := hP q _ (WL_at (ZA_ln hq).1)
    rw [ent1 hq, (ZA_ln hq).2] at h0
    exact h0
  have hlt := inb_lt hi
  exact W.zald (v := .int (M q i.toNatClampNeg)) C.1 C.2.1 hc (C.2.2.2.2.2.2.1 1 .boolean rfl 9 _) (fun z => by cases z) (by rw [arrV_size]; exact inb_in hi) (by rw [arrV_read _ _ hlt]) rfl rfl hd (k H locs ls hP hS hl)
theorem A_iast (C : Cx p s m args c cc nL own B D Y) {q n : Nat} {i x : Int32} (hq : IA q n) (hi : inb i n = true) (hd : decode cc pc = .ok (.iastore, 1)) (k : At p l e R s m args below meth c nL cells slots Q B D Y o (pc + 1) (upM M q i.toNatClampNeg x) L rest) : At p l e R s m args below meth c nL cells slots Q B D Y o pc M L (.int x :: .int i :: .ref (B + q) :: rest) := fun H locs ls hP hS hl => by
  have h0 := hP q _ (WL_at (IA_lt hq))
  have hc : H[B + q]? = some (arrV (Y 0) n (fun j => .int (M q j))) := by
    rw [ent0 hq.1, hq.2] at h0
    exact h0
  refine W.iast C.1 C.2.1 hc (C.2.2.2.2.2.2.1 0 .int rfl n _) (fun z => by cases z) (by rw [arrV_size]; exact inb_in hi) rfl rfl hd fun H1 e z oq => ?_
  refine k H1 _ ls ?_ (hS.put z oq (Nat.le_add_right _ _)) hl
  have hs := WL_set (B := B) (Y := Y) (M := M) (M' := upM M q i.toNatClampNeg x) (o := o) (o' := o) (IA_lt hq) (e := .inl (Y 0, n, .inl (upd (M q) i.toNatClampNeg x))) (by rw [ent0 hq.1, hq.2, upM_row]) (fun a ha => upM_ne ha) (Or.inl rfl)
  rw [← hs]
  refine hP.set (WL_D B Y M o) (WL_at (IA_lt hq)) ?_ oq
  show H1[B + q]? = some (vp_cell _ _)
  rw [e, vp_cell_i, arrV_store]
  congr 2
  funext j
  by_cases hj : j = i.toNatClampNeg
  · subst hj; simp [updV, upd]
  · simp [updV, upd, hj]
theorem A_zast (C : Cx p s m args c cc nL own B D Y) {q : Nat} {i x : Int32} (hq : ZA q) (hi : inb i 9 = true) (hb : isb x = true) (hd : decode cc pc = .ok (.bastore, 1)) (k : At p l e R s m args below meth c nL cells slots Q B D Y o (pc + 1) (upM M q i.toNatClampNeg x) L rest) : At p l e R s m args below meth c nL cells slots Q B D Y o pc M L (.int x :: .int i :: .ref (B + q) :: rest) := fun H locs ls hP hS hl => by
  have h0 := hP q _ (WL_at (ZA_ln hq).1)
  have hc : H[B + q]? = some (arrV (Y 1) 9 (fun j => .int (M q j))) := by
    rw [ent1 hq, (ZA_ln hq).2] at h0
    exact h0
  refine W.zast C.1 C.2.1 hc (C.2.2.2.2.2.2.1 1 .boolean rfl 9 _) (fun z => by cases z) (by rw [arrV_size]; exact inb_in hi) rfl rfl hd fun H1 e z oq => ?_
  refine k H1 _ ls ?_ (hS.put z oq (Nat.le_add_right _ _)) hl
  have hs := WL_set (B := B) (Y := Y) (M := M) (M' := upM M q i.toNatClampNeg x) (o := o) (o' := o) (ZA_ln hq).1 (e := .inl (Y 1, 9, .inl (upd (M q) i.toNatClampNeg x))) (by rw [ent1 hq, (ZA_ln hq).2, upM_row]) (fun a ha => upM_ne ha) (Or.inl rfl)
  rw [← hs]
  refine hP.set (WL_D B Y M o) (WL_at (ZA_ln hq).1) ?_ oq
  show H1[B + q]? = some (vp_cell _ _)
  rw [e, isb_nz hb, vp_cell_i, arrV_store]
  congr 2
  funext j
  by_cases hj : j = i.toNatClampNeg
  · subst hj; simp [updV, upd]
  · simp [updV, upd, hj]
theorem A_aald (C : Cx p s m args c cc nL own B D Y) {q n t0 : Nat} {i : Int32} {ty : FieldType} {f : Nat → Option Nat} {a : Nat} (hq : q < 112) (he : ent B Y M o q = .inl (Y t0, n, .inr (.inr (.inr (.inr f))))) (ht : tyY[t0]? = some ty) (hr : ty.isReference = true) (hi : inb i n = true) (hf : f i.toNatClampNeg = some a) (hd : decode cc pc = .ok (.aaload, 1)) (k : At p l e R s m args below meth c nL cells slots Q B D Y o (pc + 1) M L (.ref a :: rest)) : At p l e R s m args below meth c nL cells slots Q B D Y o pc M L (.int i :: .ref (B + q) :: rest) := fun H locs ls hP hS hl => by
  have hc : H[B + q]? = some (arrV (Y t0) n (fun j => va_rf (f j))) := by
    have h0 := hP q _ (WL_at hq)
    rw [he] at h0
    exact h0
  have hlt := inb_lt hi
  exact W.aald (v := .ref a) (ty := ty) C.1 C.2.1 hc (C.2.2.2.2.2.2.1 t0 ty ht n _) hr (fun z => by cases z) (by rw [arrV_size]; exact inb_in hi) (by rw [arrV_read _ _ hlt, hf]; rfl) rfl rfl hd (k H locs ls hP hS hl)
theorem A_aO (C : Cx p s m args c cc nL own B D Y) {i : Int32} (hi : inb i 4 = true) (hd : decode cc pc = .ok (.aaload, 1)) (k : At p l e R s m args below meth c nL cells slots Q B D Y o (pc + 1) M L (.ref (B + (2 + 3 * i.toNatClampNeg)) :: rest)) : At p l e R s m args below meth c nL cells slots Q B D Y o pc M L (.int i :: .ref (B + 1) :: rest) := A_aald C (t0 := 2) (q := 1) (M := M) (by decide) rfl rfl rfl hi rfl hd k
theorem A_aV (C : Cx p s m args c cc nL own B D Y) {i : Int32} (hi : inb i 5 = true) (hd : decode cc pc = .ok (.aaload, 1)) (k : At p l e R s m args below meth c nL cells slots Q B D Y o (pc + 1) M L (.ref (B + (50 + i.toNatClampNeg)) :: rest)) : At p l e R s m args below meth c nL cells slots Q B D Y o pc M L (.int i :: .ref (B + 49) :: rest) := A_aald C (t0 := 3) (q := 49) (M := M) (by decide) rfl rfl rfl hi rfl hd k
theorem A_aB (C : Cx p s m args c cc nL own B D Y) {i : Int32} (hi : inb i 5 = true) (hd : decode cc pc = .ok (.aaload, 1)) (k : At p l e R s m args below meth c nL cells slots Q B D Y o (pc + 1) M L (.ref (B + (56 + 10 * i.toNatClampNeg)) :: rest)) : At p l e R s m args below meth c nL cells slots Q B D Y o pc M L (.int i :: .ref (B + 55) :: rest) := A_aald C (t0 := 4) (q := 55) (M := M) (by decide) rfl rfl rfl hi rfl hd k
theorem A_aR (C : Cx p s m args c cc nL own B D Y) {q : Nat} {i : Int32} (hq : kd q = 12) (hi : inb i 9 = true) (hd : decode cc pc = .ok (.aaload, 1)) (k : At p l e R s m args below meth c nL cells slots Q B D Y o (pc + 1) M L (.ref (B + (q + 1 + i.toNatClampNeg)) :: rest)) : At p l e R s m args below meth c nL cells slots Q B D Y o pc M L (.int i :: .ref (B + q) :: rest) := A_aald C (t0 := 5) (M := M) (kd_lt (by rw [hq]; decide)) (ent12 hq) rfl rfl hi rfl hd k
/-! returns -/
theorem R_i (C : Cx p s m args c cc nL own B D Y) {v : Int32} {ty : FieldType} (hr : meth.sig.returnType = some ty) (hk : meth.locks = false) (hn : narrow ty (.int v) = .int v) (hd : decode cc pc = .ok (.ireturn, 1)) : At p l e R s m args below meth c nL cells slots (MQ below (PQ B D Y M o (some (.int v))) args s cells slots (fun q => B ≤ q)) B D Y o pc M L [.int v] := fun H locs ls hP hS hl =>
  W.zret C.1 C.2.1 hr hn (fun t ht _ => ⟨rfl, by rw [ht]; exact hP, hS.F ht⟩) hS.2.2 hd hk
theorem R_v (C : Cx p s m args c cc nL own B D Y) (hr : meth.sig.returnType = none) (hk : meth.locks = false) (hd : decode cc pc = .ok (.return_, 1)) : At p l e R s m args below meth c nL cells slots (MQ below (PQ B D Y M o none) args s cells slots (fun q => B ≤ q)) B D Y o pc M L [] := fun H locs ls hP hS hl =>
  W.vret C.1 C.2.1 hr (fun t ht _ => ⟨rfl, by rw [ht]; exact hP, hS.F ht⟩) hS.2.2 hd hk
theorem R_l (C : Cx p s m args c cc nL own B D Y) {v : Int64} (hr : meth.sig.returnType = some .long) (hk : meth.locks = false) (hd : decode cc pc = .ok (.lreturn, 1)) : At p l e R s m args below meth c nL cells slots (MQ below (PQ B D Y M o (some (.long v))) args s cells slots (fun q => B ≤ q)) B D Y o pc M L [.long v] := fun H locs ls hP hS hl =>
  W.lret C.1 C.2.1 hr (fun t ht _ => ⟨rfl, by rw [ht]; exact hP, hS.F ht⟩) hS.2.2 hd hk
theorem R_d (C : Cx p s m args c cc nL own B D Y) {v : UInt64} (hr : meth.sig.returnType = some .double) (hk : meth.locks = false) (hd : decode cc pc = .ok (.dreturn, 1)) : At p l e R s m args below meth c nL cells slots (MQ below (PQ B D Y M o (some (.double v))) args s cells slots (fun q => B ≤ q)) B D Y o pc M L [.double v] := fun H locs ls hP hS hl =>
  W.dret C.1 C.2.1 hr (fun t ht _ => ⟨rfl, by rw [ht]; exact hP, hS.F ht⟩) hS.2.2 hd hk
theorem R_f (C : Cx p s m args c cc nL own B D Y) {v : UInt32} (hr : meth.sig.returnType = some .float) (hk : meth.locks = false) (hd : decode cc pc = .ok (.freturn, 1)) : At p l e R s m args below meth c nL cells slots (MQ below (PQ B D Y M o (some (.float v))) args s cells slots (fun q => B ≤ q)) B D Y o pc M L [.float v] := fun H locs ls hP hS hl =>
  W.fret C.1 C.2.1 hr (fun t ht _ => ⟨rfl, by rw [ht]; exact hP, hS.F ht⟩) hS.2.2 hd hk
theorem R_a (C : Cx p s m args c cc nL own B D Y) {q : Nat} {rt : FieldType} (hr : meth.sig.returnType = some rt) (hrt : (∃ n, rt = .object n) ∨ ∃ t, rt = .array t) (hk : meth.locks = false) (hd : decode cc pc = .ok (.areturn, 1)) : At p l e R s m args below meth c nL cells slots (MQ below (PQ B D Y M o (some (.ref q))) args s cells slots (fun q => B ≤ q)) B D Y o pc M L [.ref q] := fun H locs ls hP hS hl =>
  W.aret C.1 C.2.1 hr hrt (Or.inr ⟨q, rfl⟩) (fun t ht _ => ⟨rfl, by rw [ht]; exact hP, hS.F ht⟩) hS.2.2 hd hk
/-! calls -/
/-- the words of a call from class own at the place idx -/
def CW (own : String) (idx : Nat) (y : MethodName) (cy : ByteArray) (nl : Nat) (ret : Option FieldType) (n : Nat) : Prop :=
  (Cond.methodLink own idx y ∈ Tz ∨ ∃ z, Cond.methodLinkNest own idx y z ∈ Tz) ∧ Cond.code y cy nl ret ∈ Tz ∧ Cond.initialized y.cls ∈ Tz ∧ (y.cls ≠ "java/lang/invoke/MethodHandle" ∧ y.cls ≠ "java/lang/invoke/VarHandle") ∧ (parseMethodDescriptor y.desc).map (fun d => d.parameters.length) = some n
def CWs (own : String) (idx : Nat) (y : MethodName) (cy : ByteArray) (nl : Nat) (ret : Option FieldType) (n : Nat) : Prop := CW own idx y cy nl ret n ∧ Cond.static y ∈ Tz
def CWv (own : String) (idx : Nat) (y : MethodName) (cy : ByteArray) (nl : Nat) (ret : Option FieldType) (n : Nat) : Prop := CW own idx y cy nl ret n ∧ Cond.instanceMethod y ∈ Tz ∧ Cond.selects y.cls y y ∈ Tz
theorem code_ok {y : MethodName} {cy : ByteArray} {nl : Nat} {ret : Option FieldType} : ((Cond.code y cy nl ret).onTables && (Cond.code y cy nl ret).keeps) = true := rfl
theorem runGo {M' : Mem} {v : Option Value} {a : Array Value} {st st0 : List Value} {H : Heap} {locs : List Loc} {ls : Array Slot} (hr : va_Run p l e R s m args below meth c H locs cells slots 0 0 (F0 m pc ls st0) st (PQ B D Y M' o v a) (fun q => B ≤ q)) (hS : va_S (fun q => B ≤ q) s.heap H locs) (hl : lv_has ls nL L) (k : At p l e R s m args below meth c nL cells slots Q B D Y o (pc + 3) M' L (v.toList ++ st)) : W p l e R s m args below meth c H locs cells slots Q (F0 m pc ls st0) := by
  intro T hT X
  obtain ⟨v2, st₀, t, T', L2, h0, X', hL, e1, e2, ⟨hv, hp, hz, hk⟩, go⟩ := hr T hT X
  cases hv
  rw [h0] at hz hk
  obtain ⟨t2, a1, b1⟩ := k T'.heap (locs ++ L2) ls (by rw [e1]; exact hp) ⟨Nat.le_trans hS.1 (by rw [e1]; exact hz), fun q h1 h2 => by rw [e1, hk q (Nat.lt_of_lt_of_le h1 hS.1) h2]; exact hS.2.1 q h1 h2, fun q hq => by
      rcases List.mem_append.mp hq with hh | hh
      · exact hS.2.2 q hh
      · exact hL q hh⟩ hl T' rfl X'
  exact ⟨t2, go t2 a1, b1⟩
theorem preOK {M0 : Mem} {A : List Value} {H : Heap} (C : Cx p s m args c cc nL own B D Y) (hP : va_P D vwCl (WL B Y M0 o) H) : PreS s H (va_Pc A (Inv B D Y M0 o)) A := ⟨fun a U g mk q => ⟨q.1, TB.same (u := U) (U := U.calling g mk a) rfl q.2.1, va_K.moved (u := U) (U := U.calling g mk a) (Vm.Alike.refl U.vm) q.2.2.1, q.2.2.2.1.moved (u := U) (U := U.calling g mk a) (Vm.Alike.refl U.vm), q.2.2.2.2⟩, fun U hU hW => ⟨rfl, C.2.2.2.2.1.moved hW, va_K.moved hW.alike C.2.2.2.2.2.1, C.2.2.2.2.2.2.1.moved hW.alike, by rw [hU]; exact hP⟩⟩
theorem A_callS (C : Cx p s m args c cc nL own B D Y) {y : MethodName} {cy : ByteArray} {nl idx n : Nat} {ret : Option FieldType} {rm : Room} {M' : Mem} {v : Option Value} {A st0 : List Value} (hw : CWs own idx y cy nl ret n) (hM : MW l y cy nl ret rm B D Y o A M M' v) (hn : A.length = n) (hst : st0 = A.reverse ++ rest) (hc : (rest.map fun v => v.category).sum ≤ 8) (hrm : rm.cells = 0 ∧ rm.slots = 0 ∧ rm.frames + 1 ≤ R.frames ∧ 8 + (nl + 11) + rm.locals ≤ R.locals) (hcs : cells ≤ R.cells ∧ slots ≤ R.slots) (hd : decode cc pc = .ok (.invokestatic idx, 3)) (k : At p l e R s m args below meth c nL cells slots Q B D Y o (pc + 3) M' L (v.toList ++ rest)) : At p l e R s m args below meth c nL cells slots Q B D Y o pc M L st0 := fun H locs ls hP hS hl => by
  have C0 := C
  obtain ⟨⟨hli, hco, hin, hy, hds⟩, hsta⟩ := hw
  have hlen : ∀ sig, parseMethodDescriptor y.desc = some sig → n = sig.parameters.length := fun sig hs => by rw [hs] at hds; exact (Option.some.inj hds).symm
  have hws : ∀ w ∈ [Cond.code y cy nl ret], ∀ (a' : Array Value) (U : State), s.WarmedH U.vm → w.before a' U = true := fun w hw a' U hW => by
    rw [List.mem_singleton.mp hw]
    exact word_at hW (Or.inl code_ok) (C.2.2.2.2.1.use hco (A := args))
  obtain ⟨c1, c2, c3, c4, c5, -⟩ := C0
  rcases hli with hli | ⟨z, hli⟩
  · exact runGo (va_runS (As := A) (rest := rest) (Ts := Tz) (nL := nL) (n := n) ⟨c1, c2, c3, c4, fun w hw => c5.use hw⟩ hM ⟨⟨hrm.1, hrm.2.1, hrm.2.2.1, hrm.2.2.2, hws, List.mem_cons_self, c5.use hco, c5.use hin, hy, hlen, c5.use hli⟩, c5.use hsta⟩ (preOK C hP) rfl hn hl.1 hst (lv_room hc) hd ⟨by simpa using hcs.1, by simpa using hcs.2⟩) hS hl k
  · exact runGo (va_runSN (As := A) (rest := rest) (Ts := Tz) (nL := nL) (n := n) ⟨c1, c2, c3, c4, fun w hw => c5.use hw⟩ hM ⟨⟨⟨hrm.1, hrm.2.1, hrm.2.2.1, hrm.2.2.2, hws, List.mem_cons_self⟩, c5.use hco, c5.use hin, hy, hlen, c5.use hli⟩, c5.use hsta, trivial⟩ (preOK C hP) rfl hn hl.1 hst (lv_room hc) hd ⟨by simpa using hcs.1, by simpa using hcs.2⟩) hS hl k
/-- the class of a receiver -/
theorem recvOK {M0 : Mem} {q ci N : Nat} {fs : List Value} {K : String} {T : u_T} {H : Heap} (C : Cx p s m args c cc nL own B D Y) (hP : va_P D vwCl (WL B Y M0 o) H) (hq : q < 112) (he : ent B Y M0 o q = .inr (ci, fs)) (hcl : vwCl[ci]? = some (K, T, N)) : ∃ cellB : Cell, H[B + q]? = some cellB ∧ cellB.vm.isStatics = false ∧ s.vm.findClass K = some cellB.cls :=
  va_recv C.2.2.2.2.2.1 hP (ci := ci) (q0 := q) hcl (by rw [WL_at hq, he])
theorem A_callV (C : Cx p s m args c cc nL own B D Y) {y : MethodName} {cy : ByteArray} {nl idx n q ci N : Nat} {fs : List Value} {T : u_T} {ret : Option FieldType} {rm : Room} {M' : Mem} {v : Option Value} {A st0 : List Value} (hw : CWv own idx y cy nl ret n) (hM : MW l y cy nl ret rm B D Y o (.ref (B + q) :: A) M M' v) (hq : q < 112) (he : ent B Y M o q = .inr (ci, fs)) (hcl : vwCl[ci]? = some (y.cls, T, N)) (hn : A.length = n) (hst : st0 = A.reverse ++ .ref (B + q) :: rest) (hc : (rest.map fun v => v.category).sum ≤ 8) (hrm : rm.cells = 0 ∧ rm.slots = 0 ∧ rm.frames + 1 ≤ R.frames ∧ 8 + (nl + 11) + rm.locals ≤ R.locals) (hcs : cells ≤ R.cells ∧ slots ≤ R.slots) (hd : decode cc pc = .ok (.invokevirtual idx, 3)) (k : At p l e R s m args below meth c nL cells slots Q B D Y o (pc + 3) M' L (v.toList ++ rest)) : At p l e R s m args below meth c nL cells slots Q B D Y o pc M L st0 := fun H locs ls hP hS hl => by
  have C0 := C
  obtain ⟨⟨hli, hco, hin, hy, hds⟩, hins, hsel⟩ := hw
  have hlen : ∀ sig, parseMethodDescriptor y.desc = some sig → n = sig.parameters.length := fun sig hs => by rw [hs] at hds; exact (Option.some.inj hds).symm
  have hws : ∀ w ∈ [Cond.code y cy nl ret], ∀ (a' : Array Value) (U : State), s.WarmedH U.vm → w.before a' U = true := fun w hw a' U hW => by
    rw [List.mem_singleton.mp hw]
    exact word_at hW (Or.inl code_ok) (C.2.2.2.2.1.use hco (A := args))
  have hre := recvOK C hP hq he hcl
  have hpr := preOK (A := .ref (B + q) :: A) C hP
  obtain ⟨c1, c2, c3, c4, c5, -⟩ := C0
  rcases hli with hli | ⟨z, hli⟩
  · exact runGo (va_runV (As := A) (rest := rest) (Ts := Tz) (nL := nL) (n := n) (C := y.cls) ⟨c1, c2, c3, c4, fun w hw => c5.use hw⟩ hM ⟨⟨hrm.1, hrm.2.1, hrm.2.2.1, hrm.2.2.2, hws, List.mem_cons_self, c5.use hco, c5.use hin, hy, hlen, c5.use hli⟩, c5.use hins, c5.use hsel⟩ ⟨hpr.1, hre, hpr.2⟩ rfl hn hl.1 hst (lv_room hc) hd ⟨by simpa using hcs.1, by simpa using hcs.2⟩) hS hl k
  · exact runGo (va_runVN (As := A) (rest := rest) (Ts := Tz) (nL := nL) (n := n) (C := y.cls) ⟨c1, c2, c3, c4, fun w hw => c5.use hw⟩ hM ⟨⟨⟨hrm.1, hrm.2.1, hrm.2.2.1, hrm.2.2.2, hws, List.mem_cons_self⟩, c5.use hco, c5.use hin, hy, hlen, c5.use hli⟩, c5.use hins, c5.use hsel⟩ ⟨hpr.1, hre, hpr.2⟩ rfl hn hl.1 hst (lv_room hc) hd ⟨by simpa using hcs.1, by simpa using hcs.2⟩) hS hl k
end ATS
end
