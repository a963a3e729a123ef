section
-- ===== PART A: goes FIRST, ahead of the names: the tables' words, and 'selects' of the private methods out of them =====
/-- a private method of a class that the tables say can be made, by its rows of tables_1 -/
def lw_okq (q : MethodName × Nat) : Prop := (q.1.cls ≠ "java/lang/invoke/MethodHandle" ∧ q.1.cls ≠ "java/lang/invoke/VarHandle") ∧ Cond.instantiable q.1.cls q.2 ∈ tables_1 ∧ Cond.privateMethod q.1 ∈ tables_1 ∧ Cond.instanceMethod q.1 ∈ tables_1
theorem lw_p0 : lw_okq (⟨"Belowhouse", "mixedIn", "(JLBelowhouse$Order;)J"⟩, 6) := ⟨⟨by decide +kernel, by decide +kernel⟩, List.mem_of_getElem? (i := 18) (by decide +kernel), List.mem_of_getElem? (i := 155) (by decide +kernel), List.mem_of_getElem? (i := 156) (by decide +kernel)⟩
theorem lw_p1 : lw_okq (⟨"Belowhouse$RowTable", "passOn", "(LBelowhouse$Order;I)V"⟩, 3) := ⟨⟨by decide +kernel, by decide +kernel⟩, List.mem_of_getElem? (i := 68) (by decide +kernel), List.mem_of_getElem? (i := 182) (by decide +kernel), List.mem_of_getElem? (i := 183) (by decide +kernel)⟩
theorem lw_p2 : lw_okq (⟨"Belowhouse", "orderAt", "(I)LBelowhouse$Order;"⟩, 6) := ⟨⟨by decide +kernel, by decide +kernel⟩, List.mem_of_getElem? (i := 18) (by decide +kernel), List.mem_of_getElem? (i := 230) (by decide +kernel), List.mem_of_getElem? (i := 231) (by decide +kernel)⟩
theorem lw_p3 : lw_okq (⟨"java/lang/Throwable", "fillInStackTrace", "(I)Ljava/lang/Throwable;"⟩, 6) := ⟨⟨by decide +kernel, by decide +kernel⟩, List.mem_of_getElem? (i := 272) (by decide +kernel), List.mem_of_getElem? (i := 270) (by decide +kernel), List.mem_of_getElem? (i := 271) (by decide +kernel)⟩
theorem lw_p4 : lw_okq (⟨"Belowhouse", "orderWith", "(II)LBelowhouse$Order;"⟩, 6) := ⟨⟨by decide +kernel, by decide +kernel⟩, List.mem_of_getElem? (i := 18) (by decide +kernel), List.mem_of_getElem? (i := 379) (by decide +kernel), List.mem_of_getElem? (i := 380) (by decide +kernel)⟩
theorem lw_p5 : lw_okq (⟨"Belowhouse", "orderWithSet", "(II)LBelowhouse$Order;"⟩, 6) := ⟨⟨by decide +kernel, by decide +kernel⟩, List.mem_of_getElem? (i := 18) (by decide +kernel), List.mem_of_getElem? (i := 402) (by decide +kernel), List.mem_of_getElem? (i := 403) (by decide +kernel)⟩
theorem lw_p6 : lw_okq (⟨"Belowhouse", "orderWithBoth", "(III)LBelowhouse$Order;"⟩, 6) := ⟨⟨by decide +kernel, by decide +kernel⟩, List.mem_of_getElem? (i := 18) (by decide +kernel), List.mem_of_getElem? (i := 422) (by decide +kernel), List.mem_of_getElem? (i := 423) (by decide +kernel)⟩
theorem lw_p7 : lw_okq (⟨"Belowhouse", "layOutRow", "(LBelowhouse$Order;I)V"⟩, 6) := ⟨⟨by decide +kernel, by decide +kernel⟩, List.mem_of_getElem? (i := 18) (by decide +kernel), List.mem_of_getElem? (i := 461) (by decide +kernel), List.mem_of_getElem? (i := 462) (by decide +kernel)⟩
theorem lw_p8 : lw_okq (⟨"Belowhouse$RowTable", "waysByLesser", "(LBelowhouse$Order;II)I"⟩, 3) := ⟨⟨by decide +kernel, by decide +kernel⟩, List.mem_of_getElem? (i := 68) (by decide +kernel), List.mem_of_getElem? (i := 471) (by decide +kernel), List.mem_of_getElem? (i := 472) (by decide +kernel)⟩
theorem lw_p9 : lw_okq (⟨"Belowhouse$RowTable", "thingFor", "(LBelowhouse$Order;II)I"⟩, 3) := ⟨⟨by decide +kernel, by decide +kernel⟩, List.mem_of_getElem? (i := 68) (by decide +kernel), List.mem_of_getElem? (i := 480) (by decide +kernel), List.mem_of_getElem? (i := 481) (by decide +kernel)⟩
theorem lw_p10 : lw_okq (⟨"Belowhouse", "joinInto", "(IIIZ)LBelowhouse$Order;"⟩, 6) := ⟨⟨by decide +kernel, by decide +kernel⟩, List.mem_of_getElem? (i := 18) (by decide +kernel), List.mem_of_getElem? (i := 518) (by decide +kernel), List.mem_of_getElem? (i := 519) (by decide +kernel)⟩
theorem lw_p11 : lw_okq (⟨"Belowhouse$RowTable", "waysThrough", "(LBelowhouse$Order;II)I"⟩, 3) := ⟨⟨by decide +kernel, by decide +kernel⟩, List.mem_of_getElem? (i := 68) (by decide +kernel), List.mem_of_getElem? (i := 868) (by decide +kernel), List.mem_of_getElem? (i := 869) (by decide +kernel)⟩
theorem lw_p12 : lw_okq (⟨"Belowhouse$Numbers", "fillFrom", "(LBelowhouse$Order;I)V"⟩, 1) := ⟨⟨by decide +kernel, by decide +kernel⟩, List.mem_of_getElem? (i := 85) (by decide +kernel), List.mem_of_getElem? (i := 928) (by decide +kernel), List.mem_of_getElem? (i := 929) (by decide +kernel)⟩
theorem lw_p13 : lw_okq (⟨"Belowhouse$Numbers", "sumBelow", "(LBelowhouse$Order;I)I"⟩, 1) := ⟨⟨by decide +kernel, by decide +kernel⟩, List.mem_of_getElem? (i := 85) (by decide +kernel), List.mem_of_getElem? (i := 933) (by decide +kernel), List.mem_of_getElem? (i := 934) (by decide +kernel)⟩
theorem lw_p14 : lw_okq (⟨"Belowhouse$Theorem", "linksLeast", "(LBelowhouse$Order;)Z"⟩, 7) := ⟨⟨by decide +kernel, by decide +kernel⟩, List.mem_of_getElem? (i := 95) (by decide +kernel), List.mem_of_getElem? (i := 968) (by decide +kernel), List.mem_of_getElem? (i := 969) (by decide +kernel)⟩
theorem lw_p15 : lw_okq (⟨"Belowhouse$Theorem", "linksLeast", "(LBelowhouse$Order;II)Z"⟩, 7) := ⟨⟨by decide +kernel, by decide +kernel⟩, List.mem_of_getElem? (i := 95) (by decide +kernel), List.mem_of_getElem? (i := 972) (by decide +kernel), List.mem_of_getElem? (i := 973) (by decide +kernel)⟩
def lw_privs_1 : List (MethodName × Nat) := [(⟨"Belowhouse", "mixedIn", "(JLBelowhouse$Order;)J"⟩, 6), (⟨"Belowhouse$RowTable", "passOn", "(LBelowhouse$Order;I)V"⟩, 3), (⟨"Belowhouse", "orderAt", "(I)LBelowhouse$Order;"⟩, 6), (⟨"java/lang/Throwable", "fillInStackTrace", "(I)Ljava/lang/Throwable;"⟩, 6), (⟨"Belowhouse", "orderWith", "(II)LBelowhouse$Order;"⟩, 6), (⟨"Belowhouse", "orderWithSet", "(II)LBelowhouse$Order;"⟩, 6), (⟨"Belowhouse", "orderWithBoth", "(III)LBelowhouse$Order;"⟩, 6), (⟨"Belowhouse", "layOutRow", "(LBelowhouse$Order;I)V"⟩, 6), (⟨"Belowhouse$RowTable", "waysByLesser", "(LBelowhouse$Order;II)I"⟩, 3), (⟨"Belowhouse$RowTable", "thingFor", "(LBelowhouse$Order;II)I"⟩, 3), (⟨"Belowhouse", "joinInto", "(IIIZ)LBelowhouse$Order;"⟩, 6), (⟨"Belowhouse$RowTable", "waysThrough", "(LBelowhouse$Order;II)I"⟩, 3), (⟨"Belowhouse$Numbers", "fillFrom", "(LBelowhouse$Order;I)V"⟩, 1), (⟨"Belowhouse$Numbers", "sumBelow", "(LBelowhouse$Order;I)I"⟩, 1), (⟨"Belowhouse$Theorem", "linksLeast", "(LBelowhouse$Order;)Z"⟩, 7), (⟨"Belowhouse$Theorem", "linksLeast", "(LBelowhouse$Order;II)Z"⟩, 7)]
theorem lw_r1 : ∀ q ∈ lw_privs_1, lw_okq q := List.forall_mem_cons.mpr ⟨lw_p0, List.forall_mem_cons.mpr ⟨lw_p1, List.forall_mem_cons.mpr ⟨lw_p2, List.forall_mem_cons.mpr ⟨lw_p3, List.forall_mem_cons.mpr ⟨lw_p4, List.forall_mem_cons.mpr ⟨lw_p5, List.forall_mem_cons.mpr ⟨lw_p6, List.forall_mem_cons.mpr ⟨lw_p7, List.forall_mem_cons.mpr ⟨lw_p8, List.forall_mem_cons.mpr ⟨lw_p9, List.forall_mem_cons.mpr ⟨lw_p10, List.forall_mem_cons.mpr ⟨lw_p11, List.forall_mem_cons.mpr ⟨lw_p12, List.forall_mem_cons.mpr ⟨lw_p13, List.forall_mem_cons.mpr ⟨lw_p14, List.forall_mem_cons.mpr ⟨lw_p15, fun _ h => absurd h List.not_mem_nil⟩⟩⟩⟩⟩⟩⟩⟩⟩⟩⟩⟩⟩⟩⟩⟩
theorem lw_p16 : lw_okq (⟨"Belowhouse$Theorem", "looseComesBack", "(LBelowhouse$Order;)Z"⟩, 7) := ⟨⟨by decide +kernel, by decide +kernel⟩, List.mem_of_getElem? (i := 95) (by decide +kernel), List.mem_of_getElem? (i := 979) (by decide +kernel), List.mem_of_getElem? (i := 980) (by decide +kernel)⟩
theorem lw_p17 : lw_okq (⟨"Belowhouse$Theorem", "growsByGreatest", "(LBelowhouse$Order;)Z"⟩, 7) := ⟨⟨by decide +kernel, by decide +kernel⟩, List.mem_of_getElem? (i := 95) (by decide +kernel), List.mem_of_getElem? (i := 985) (by decide +kernel), List.mem_of_getElem? (i := 986) (by decide +kernel)⟩
theorem lw_p18 : lw_okq (⟨"Belowhouse$Theorem", "rowsTellPairs", "(LBelowhouse$Order;)Z"⟩, 7) := ⟨⟨by decide +kernel, by decide +kernel⟩, List.mem_of_getElem? (i := 95) (by decide +kernel), List.mem_of_getElem? (i := 994) (by decide +kernel), List.mem_of_getElem? (i := 995) (by decide +kernel)⟩
theorem lw_p19 : lw_okq (⟨"Belowhouse$Theorem", "rowsTellPair", "(LBelowhouse$Order;III)Z"⟩, 7) := ⟨⟨by decide +kernel, by decide +kernel⟩, List.mem_of_getElem? (i := 95) (by decide +kernel), List.mem_of_getElem? (i := 999) (by decide +kernel), List.mem_of_getElem? (i := 1000) (by decide +kernel)⟩
theorem lw_p20 : lw_okq (⟨"Belowhouse$Theorem", "coversFit", "(LBelowhouse$Order;)Z"⟩, 7) := ⟨⟨by decide +kernel, by decide +kernel⟩, List.mem_of_getElem? (i := 95) (by decide +kernel), List.mem_of_getElem? (i := 1004) (by decide +kernel), List.mem_of_getElem? (i := 1005) (by decide +kernel)⟩
theorem lw_p21 : lw_okq (⟨"Belowhouse$Theorem", "closedSetsFit", "(LBelowhouse$Order;)Z"⟩, 7) := ⟨⟨by decide +kernel, by decide +kernel⟩, List.mem_of_getElem? (i := 95) (by decide +kernel), List.mem_of_getElem? (i := 1012) (by decide +kernel), List.mem_of_getElem? (i := 1013) (by decide +kernel)⟩
theorem lw_p22 : lw_okq (⟨"Belowhouse$Theorem", "staysClosedBy", "(LBelowhouse$Order;I)Z"⟩, 7) := ⟨⟨by decide +kernel, by decide +kernel⟩, List.mem_of_getElem? (i := 95) (by decide +kernel), List.mem_of_getElem? (i := 1027) (by decide +kernel), List.mem_of_getElem? (i := 1028) (by decide +kernel)⟩
theorem lw_p23 : lw_okq (⟨"Belowhouse$Theorem", "sumsAreUndone", "(LBelowhouse$Order;)Z"⟩, 7) := ⟨⟨by decide +kernel, by decide +kernel⟩, List.mem_of_getElem? (i := 95) (by decide +kernel), List.mem_of_getElem? (i := 1034) (by decide +kernel), List.mem_of_getElem? (i := 1035) (by decide +kernel)⟩
theorem lw_p24 : lw_okq (⟨"Belowhouse$Theorem", "turnsRound", "(LBelowhouse$Order;)Z"⟩, 7) := ⟨⟨by decide +kernel, by decide +kernel⟩, List.mem_of_getElem? (i := 95) (by decide +kernel), List.mem_of_getElem? (i := 1043) (by decide +kernel), List.mem_of_getElem? (i := 1044) (by decide +kernel)⟩
theorem lw_p25 : lw_okq (⟨"Belowhouse$Theorem", "sizesTurn", "(LBelowhouse$Order;)Z"⟩, 7) := ⟨⟨by decide +kernel, by decide +kernel⟩, List.mem_of_getElem? (i := 95) (by decide +kernel), List.mem_of_getElem? (i := 1048) (by decide +kernel), List.mem_of_getElem? (i := 1049) (by decide +kernel)⟩
theorem lw_p26 : lw_okq (⟨"Belowhouse$Theorem", "besideFits", "(LBelowhouse$Order;LBelowhouse$Order;)Z"⟩, 7) := ⟨⟨by decide +kernel, by decide +kernel⟩, List.mem_of_getElem? (i := 95) (by decide +kernel), List.mem_of_getElem? (i := 1064) (by decide +kernel), List.mem_of_getElem? (i := 1065) (by decide +kernel)⟩
theorem lw_p27 : lw_okq (⟨"Belowhouse$Theorem", "aboveFits", "(LBelowhouse$Order;LBelowhouse$Order;)Z"⟩, 7) := ⟨⟨by decide +kernel, by decide +kernel⟩, List.mem_of_getElem? (i := 95) (by decide +kernel), List.mem_of_getElem? (i := 1076) (by decide +kernel), List.mem_of_getElem? (i := 1077) (by decide +kernel)⟩
theorem lw_p28 : lw_okq (⟨"BelowhouseModel", "lets", "(ZI)Z"⟩, 8) := ⟨⟨by decide +kernel, by decide +kernel⟩, List.mem_of_getElem? (i := 1080) (by decide +kernel), List.mem_of_getElem? (i := 1131) (by decide +kernel), List.mem_of_getElem? (i := 1132) (by decide +kernel)⟩
theorem lw_p29 : lw_okq (⟨"BelowhouseModel", "empty", "(II)V"⟩, 8) := ⟨⟨by decide +kernel, by decide +kernel⟩, List.mem_of_getElem? (i := 1080) (by decide +kernel), List.mem_of_getElem? (i := 1135) (by decide +kernel), List.mem_of_getElem? (i := 1136) (by decide +kernel)⟩
theorem lw_p30 : lw_okq (⟨"BelowhouseModel", "pairsOf", "(I)I"⟩, 8) := ⟨⟨by decide +kernel, by decide +kernel⟩, List.mem_of_getElem? (i := 1080) (by decide +kernel), List.mem_of_getElem? (i := 1143) (by decide +kernel), List.mem_of_getElem? (i := 1144) (by decide +kernel)⟩
theorem lw_p31 : lw_okq (⟨"BelowhouseModel", "isThing", "(II)Z"⟩, 8) := ⟨⟨by decide +kernel, by decide +kernel⟩, List.mem_of_getElem? (i := 1080) (by decide +kernel), List.mem_of_getElem? (i := 1155) (by decide +kernel), List.mem_of_getElem? (i := 1156) (by decide +kernel)⟩
def lw_privs_2 : List (MethodName × Nat) := [(⟨"Belowhouse$Theorem", "looseComesBack", "(LBelowhouse$Order;)Z"⟩, 7), (⟨"Belowhouse$Theorem", "growsByGreatest", "(LBelowhouse$Order;)Z"⟩, 7), (⟨"Belowhouse$Theorem", "rowsTellPairs", "(LBelowhouse$Order;)Z"⟩, 7), (⟨"Belowhouse$Theorem", "rowsTellPair", "(LBelowhouse$Order;III)Z"⟩, 7), (⟨"Belowhouse$Theorem", "coversFit", "(LBelowhouse$Order;)Z"⟩, 7), (⟨"Belowhouse$Theorem", "closedSetsFit", "(LBelowhouse$Order;)Z"⟩, 7), (⟨"Belowhouse$Theorem", "staysClosedBy", "(LBelowhouse$Order;I)Z"⟩, 7), (⟨"Belowhouse$Theorem", "sumsAreUndone", "(LBelowhouse$Order;)Z"⟩, 7), (⟨"Belowhouse$Theorem", "turnsRound", "(LBelowhouse$Order;)Z"⟩, 7), (⟨"Belowhouse$Theorem", "sizesTurn", "(LBelowhouse$Order;)Z"⟩, 7), (⟨"Belowhouse$Theorem", "besideFits", "(LBelowhouse$Order;LBelowhouse$Order;)Z"⟩, 7), (⟨"Belowhouse$Theorem", "aboveFits", "(LBelowhouse$Order;LBelowhouse$Order;)Z"⟩, 7), (⟨"BelowhouseModel", "lets", "(ZI)Z"⟩, 8), (⟨"BelowhouseModel", "empty", "(II)V"⟩, 8), (⟨"BelowhouseModel", "pairsOf", "(I)I"⟩, 8), (⟨"BelowhouseModel", "isThing", "(II)Z"⟩, 8)]
theorem lw_r2 : ∀ q ∈ lw_privs_2, lw_okq q := List.forall_mem_cons.mpr ⟨lw_p16, List.forall_mem_cons.mpr ⟨lw_p17, List.forall_mem_cons.mpr ⟨lw_p18, List.forall_mem_cons.mpr ⟨lw_p19, List.forall_mem_cons.mpr ⟨lw_p20, List.forall_mem_cons.mpr ⟨lw_p21, List.forall_mem_cons.mpr ⟨lw_p22, List.forall_mem_cons.mpr ⟨lw_p23, List.forall_mem_cons.mpr ⟨lw_p24, List.forall_mem_cons.mpr ⟨lw_p25, List.forall_mem_cons.mpr ⟨lw_p26, List.forall_mem_cons.mpr ⟨lw_p27, List.forall_mem_cons.mpr ⟨lw_p28, List.forall_mem_cons.mpr ⟨lw_p29, List.forall_mem_cons.mpr ⟨lw_p30, List.forall_mem_cons.mpr ⟨lw_p31, fun _ h => absurd h List.not_mem_nil⟩⟩⟩⟩⟩⟩⟩⟩⟩⟩⟩⟩⟩⟩⟩⟩
theorem lw_p32 : lw_okq (⟨"BelowhouseModel", "stay", "(II)V"⟩, 8) := ⟨⟨by decide +kernel, by decide +kernel⟩, List.mem_of_getElem? (i := 1080) (by decide +kernel), List.mem_of_getElem? (i := 1159) (by decide +kernel), List.mem_of_getElem? (i := 1160) (by decide +kernel)⟩
theorem lw_p33 : lw_okq (⟨"BelowhouseModel", "becomes", "(II)V"⟩, 8) := ⟨⟨by decide +kernel, by decide +kernel⟩, List.mem_of_getElem? (i := 1080) (by decide +kernel), List.mem_of_getElem? (i := 1166) (by decide +kernel), List.mem_of_getElem? (i := 1167) (by decide +kernel)⟩
theorem lw_p34 : lw_okq (⟨"BelowhouseModel", "isSet", "(II)Z"⟩, 8) := ⟨⟨by decide +kernel, by decide +kernel⟩, List.mem_of_getElem? (i := 1080) (by decide +kernel), List.mem_of_getElem? (i := 1174) (by decide +kernel), List.mem_of_getElem? (i := 1175) (by decide +kernel)⟩
theorem lw_p35 : lw_okq (⟨"BelowhouseModel", "isUpTo", "(III)Z"⟩, 8) := ⟨⟨by decide +kernel, by decide +kernel⟩, List.mem_of_getElem? (i := 1080) (by decide +kernel), List.mem_of_getElem? (i := 1186) (by decide +kernel), List.mem_of_getElem? (i := 1187) (by decide +kernel)⟩
theorem lw_p36 : lw_okq (⟨"BelowhouseModel", "next", "(III)Z"⟩, 8) := ⟨⟨by decide +kernel, by decide +kernel⟩, List.mem_of_getElem? (i := 1080) (by decide +kernel), List.mem_of_getElem? (i := 1194) (by decide +kernel), List.mem_of_getElem? (i := 1195) (by decide +kernel)⟩
theorem lw_p37 : lw_okq (⟨"BelowhouseModel", "rowsOf", "(I)I"⟩, 8) := ⟨⟨by decide +kernel, by decide +kernel⟩, List.mem_of_getElem? (i := 1080) (by decide +kernel), List.mem_of_getElem? (i := 1202) (by decide +kernel), List.mem_of_getElem? (i := 1203) (by decide +kernel)⟩
theorem lw_p38 : lw_okq (⟨"BelowhouseModel", "follow", "(IIIZ)I"⟩, 8) := ⟨⟨by decide +kernel, by decide +kernel⟩, List.mem_of_getElem? (i := 1080) (by decide +kernel), List.mem_of_getElem? (i := 1206) (by decide +kernel), List.mem_of_getElem? (i := 1207) (by decide +kernel)⟩
theorem lw_p39 : lw_okq (⟨"BelowhouseModel", "lowerOf", "(II)I"⟩, 8) := ⟨⟨by decide +kernel, by decide +kernel⟩, List.mem_of_getElem? (i := 1080) (by decide +kernel), List.mem_of_getElem? (i := 1210) (by decide +kernel), List.mem_of_getElem? (i := 1211) (by decide +kernel)⟩
theorem lw_p40 : lw_okq (⟨"BelowhouseModel", "lineUp", "(II)I"⟩, 8) := ⟨⟨by decide +kernel, by decide +kernel⟩, List.mem_of_getElem? (i := 1080) (by decide +kernel), List.mem_of_getElem? (i := 1217) (by decide +kernel), List.mem_of_getElem? (i := 1218) (by decide +kernel)⟩
theorem lw_p41 : lw_okq (⟨"BelowhouseModel", "canJoin", "(III)Z"⟩, 8) := ⟨⟨by decide +kernel, by decide +kernel⟩, List.mem_of_getElem? (i := 1080) (by decide +kernel), List.mem_of_getElem? (i := 1233) (by decide +kernel), List.mem_of_getElem? (i := 1234) (by decide +kernel)⟩
theorem lw_p42 : lw_okq (⟨"BelowhouseModel", "joins", "(IIZ)V"⟩, 8) := ⟨⟨by decide +kernel, by decide +kernel⟩, List.mem_of_getElem? (i := 1080) (by decide +kernel), List.mem_of_getElem? (i := 1237) (by decide +kernel), List.mem_of_getElem? (i := 1238) (by decide +kernel)⟩
theorem lw_p43 : lw_okq (⟨"BelowhouseModel", "upperOf", "(II)I"⟩, 8) := ⟨⟨by decide +kernel, by decide +kernel⟩, List.mem_of_getElem? (i := 1080) (by decide +kernel), List.mem_of_getElem? (i := 1277) (by decide +kernel), List.mem_of_getElem? (i := 1278) (by decide +kernel)⟩
theorem lw_p44 : lw_okq (⟨"BelowhouseModel", "isAll", "(IIZ)Z"⟩, 8) := ⟨⟨by decide +kernel, by decide +kernel⟩, List.mem_of_getElem? (i := 1080) (by decide +kernel), List.mem_of_getElem? (i := 1297) (by decide +kernel), List.mem_of_getElem? (i := 1298) (by decide +kernel)⟩
theorem lw_p45 : lw_okq (⟨"BelowhouseModel", "levelOf", "(II)I"⟩, 8) := ⟨⟨by decide +kernel, by decide +kernel⟩, List.mem_of_getElem? (i := 1080) (by decide +kernel), List.mem_of_getElem? (i := 1309) (by decide +kernel), List.mem_of_getElem? (i := 1310) (by decide +kernel)⟩
theorem lw_p46 : lw_okq (⟨"BelowhouseModel", "mostOf", "(IZ)I"⟩, 8) := ⟨⟨by decide +kernel, by decide +kernel⟩, List.mem_of_getElem? (i := 1080) (by decide +kernel), List.mem_of_getElem? (i := 1317) (by decide +kernel), List.mem_of_getElem? (i := 1318) (by decide +kernel)⟩
theorem lw_p47 : lw_okq (⟨"BelowhouseModel", "fewestOf", "(IZ)I"⟩, 8) := ⟨⟨by decide +kernel, by decide +kernel⟩, List.mem_of_getElem? (i := 1080) (by decide +kernel), List.mem_of_getElem? (i := 1329) (by decide +kernel), List.mem_of_getElem? (i := 1330) (by decide +kernel)⟩
def lw_privs_3 : List (MethodName × Nat) := [(⟨"BelowhouseModel", "stay", "(II)V"⟩, 8), (⟨"BelowhouseModel", "becomes", "(II)V"⟩, 8), (⟨"BelowhouseModel", "isSet", "(II)Z"⟩, 8), (⟨"BelowhouseModel", "isUpTo", "(III)Z"⟩, 8), (⟨"BelowhouseModel", "next", "(III)Z"⟩, 8), (⟨"BelowhouseModel", "rowsOf", "(I)I"⟩, 8), (⟨"BelowhouseModel", "follow", "(IIIZ)I"⟩, 8), (⟨"BelowhouseModel", "lowerOf", "(II)I"⟩, 8), (⟨"BelowhouseModel", "lineUp", "(II)I"⟩, 8), (⟨"BelowhouseModel", "canJoin", "(III)Z"⟩, 8), (⟨"BelowhouseModel", "joins", "(IIZ)V"⟩, 8), (⟨"BelowhouseModel", "upperOf", "(II)I"⟩, 8), (⟨"BelowhouseModel", "isAll", "(IIZ)Z"⟩, 8), (⟨"BelowhouseModel", "levelOf", "(II)I"⟩, 8), (⟨"BelowhouseModel", "mostOf", "(IZ)I"⟩, 8), (⟨"BelowhouseModel", "fewestOf", "(IZ)I"⟩, 8)]
theorem lw_r3 : ∀ q ∈ lw_privs_3, lw_okq q := List.forall_mem_cons.mpr ⟨lw_p32, List.forall_mem_cons.mpr ⟨lw_p33, List.forall_mem_cons.mpr ⟨lw_p34, List.forall_mem_cons.mpr ⟨lw_p35, List.forall_mem_cons.mpr ⟨lw_p36, List.forall_mem_cons.mpr ⟨lw_p37, List.forall_mem_cons.mpr ⟨lw_p38, List.forall_mem_cons.mpr ⟨lw_p39, List.forall_mem_cons.mpr ⟨lw_p40, List.forall_mem_cons.mpr ⟨lw_p41, List.forall_mem_cons.mpr ⟨lw_p42, List.forall_mem_cons.mpr ⟨lw_p43, List.forall_mem_cons.mpr ⟨lw_p44, List.forall_mem_cons.mpr ⟨lw_p45, List.forall_mem_cons.mpr ⟨lw_p46, List.forall_mem_cons.mpr ⟨lw_p47, fun _ h => absurd h List.not_mem_nil⟩⟩⟩⟩⟩⟩⟩⟩⟩⟩⟩⟩⟩⟩⟩⟩
theorem lw_p48 : lw_okq (⟨"BelowhouseModel", "manyOf", "(II)I"⟩, 8) := ⟨⟨by decide +kernel, by decide +kernel⟩, List.mem_of_getElem? (i := 1080) (by decide +kernel), List.mem_of_getElem? (i := 1345) (by decide +kernel), List.mem_of_getElem? (i := 1346) (by decide +kernel)⟩
theorem lw_p49 : lw_okq (⟨"BelowhouseModel", "isClosed", "(II)Z"⟩, 8) := ⟨⟨by decide +kernel, by decide +kernel⟩, List.mem_of_getElem? (i := 1080) (by decide +kernel), List.mem_of_getElem? (i := 1349) (by decide +kernel), List.mem_of_getElem? (i := 1350) (by decide +kernel)⟩
theorem lw_p50 : lw_okq (⟨"BelowhouseModel", "closure", "(II)I"⟩, 8) := ⟨⟨by decide +kernel, by decide +kernel⟩, List.mem_of_getElem? (i := 1080) (by decide +kernel), List.mem_of_getElem? (i := 1353) (by decide +kernel), List.mem_of_getElem? (i := 1354) (by decide +kernel)⟩
theorem lw_p51 : lw_okq (⟨"BelowhouseModel", "placeIn", "(II)I"⟩, 8) := ⟨⟨by decide +kernel, by decide +kernel⟩, List.mem_of_getElem? (i := 1080) (by decide +kernel), List.mem_of_getElem? (i := 1369) (by decide +kernel), List.mem_of_getElem? (i := 1370) (by decide +kernel)⟩
theorem lw_p52 : lw_okq (⟨"BelowhouseModel", "placeOfRow", "(II)I"⟩, 8) := ⟨⟨by decide +kernel, by decide +kernel⟩, List.mem_of_getElem? (i := 1080) (by decide +kernel), List.mem_of_getElem? (i := 1408) (by decide +kernel), List.mem_of_getElem? (i := 1409) (by decide +kernel)⟩
theorem lw_p53 : lw_okq (⟨"BelowhouseModel", "with", "(III)I"⟩, 8) := ⟨⟨by decide +kernel, by decide +kernel⟩, List.mem_of_getElem? (i := 1080) (by decide +kernel), List.mem_of_getElem? (i := 1420) (by decide +kernel), List.mem_of_getElem? (i := 1421) (by decide +kernel)⟩
theorem lw_p54 : lw_okq (⟨"BelowhouseModel", "at", "(III)I"⟩, 8) := ⟨⟨by decide +kernel, by decide +kernel⟩, List.mem_of_getElem? (i := 1080) (by decide +kernel), List.mem_of_getElem? (i := 1428) (by decide +kernel), List.mem_of_getElem? (i := 1429) (by decide +kernel)⟩
theorem lw_p55 : lw_okq (⟨"BelowhouseModel", "sumOf", "(II)I"⟩, 8) := ⟨⟨by decide +kernel, by decide +kernel⟩, List.mem_of_getElem? (i := 1080) (by decide +kernel), List.mem_of_getElem? (i := 1444) (by decide +kernel), List.mem_of_getElem? (i := 1445) (by decide +kernel)⟩
theorem lw_p56 : lw_okq (⟨"BelowhouseModel", "numberOf", "(III)I"⟩, 8) := ⟨⟨by decide +kernel, by decide +kernel⟩, List.mem_of_getElem? (i := 1080) (by decide +kernel), List.mem_of_getElem? (i := 1452) (by decide +kernel), List.mem_of_getElem? (i := 1453) (by decide +kernel)⟩
def lw_privs_4 : List (MethodName × Nat) := [(⟨"BelowhouseModel", "manyOf", "(II)I"⟩, 8), (⟨"BelowhouseModel", "isClosed", "(II)Z"⟩, 8), (⟨"BelowhouseModel", "closure", "(II)I"⟩, 8), (⟨"BelowhouseModel", "placeIn", "(II)I"⟩, 8), (⟨"BelowhouseModel", "placeOfRow", "(II)I"⟩, 8), (⟨"BelowhouseModel", "with", "(III)I"⟩, 8), (⟨"BelowhouseModel", "at", "(III)I"⟩, 8), (⟨"BelowhouseModel", "sumOf", "(II)I"⟩, 8), (⟨"BelowhouseModel", "numberOf", "(III)I"⟩, 8)]
theorem lw_r4 : ∀ q ∈ lw_privs_4, lw_okq q := List.forall_mem_cons.mpr ⟨lw_p48, List.forall_mem_cons.mpr ⟨lw_p49, List.forall_mem_cons.mpr ⟨lw_p50, List.forall_mem_cons.mpr ⟨lw_p51, List.forall_mem_cons.mpr ⟨lw_p52, List.forall_mem_cons.mpr ⟨lw_p53, List.forall_mem_cons.mpr ⟨lw_p54, List.forall_mem_cons.mpr ⟨lw_p55, List.forall_mem_cons.mpr ⟨lw_p56, fun _ h => absurd h List.not_mem_nil⟩⟩⟩⟩⟩⟩⟩⟩⟩
def lw_privs : List (MethodName × Nat) := lw_privs_1 ++ (lw_privs_2 ++ (lw_privs_3 ++ (lw_privs_4)))
def lw_tbl : List Cond := k2_sels lw_privs ++ tables_1
theorem lw_privs_ok : ∀ q ∈ lw_privs, lw_okq q := by
  show ∀ q ∈ lw_privs_1 ++ (lw_privs_2 ++ (lw_privs_3 ++ (lw_privs_4))), lw_okq q
  exact List.forall_mem_append.mpr ⟨lw_r1, List.forall_mem_append.mpr ⟨lw_r2, List.forall_mem_append.mpr ⟨lw_r3, lw_r4⟩⟩⟩
/-- the streams that the claim lets the run draw from -/
abbrev lw_cs : List Choice := [Jvm.Choice.named "NaN.bits"]
theorem lw_bits : nanBits ∈ lw_cs := by first | decide | exact List.mem_cons_self | simp [lw_cs, nanBits]
/-! ===== BEGIN words of one list among another's, by their places ===== -/
theorem goodIn_r {big : List Cond} (ws : List Cond) (ps : List Nat) (hp : ws = ps.filterMap (fun i => big[i]?)) (h : ws.all goodWord = true) : GoodIn big ws := by
  intro w hw
  have h1 := List.all_eq_true.mp h w hw
  rw [hp] at hw
  obtain ⟨i, -, hi⟩ := List.mem_filterMap.mp hw
  have hm : w ∈ big := by first | exact List.mem_of_getElem? hi | exact List.getElem?_mem hi
  exact ⟨hm, good_of_word h1⟩
theorem goodIn_app {big a b : List Cond} (ha : GoodIn big a) (hb : GoodIn big b) : GoodIn big (a ++ b) := fun w h => (List.mem_append.mp h).elim (ha w) (hb w)
theorem goodIn_ca {big a b : List Cond} {c : Cond} (ha : GoodIn big (c :: a)) (hb : GoodIn big b) : GoodIn big (c :: (a ++ b)) := fun w h => (List.mem_cons.mp h).elim (fun e => ha w (List.mem_cons.mpr (Or.inl e))) (fun h => (List.mem_append.mp h).elim (fun h => ha w (List.mem_cons.mpr (Or.inr h))) (hb w))
theorem goodIn_sub {big ws : List Cond} (hm : ∀ w ∈ ws, w ∈ big) (h : ws.all goodWord = true) : GoodIn big ws := fun w hw => ⟨hm w hw, good_of_word (List.all_eq_true.mp h w hw)⟩
/-! ===== END ===== -/


/-! ===== BEGIN exceptions that leave a method, and their catching by the caller (launches without stack traces) ===== -/
section VXA
/-! The laws vx_back, vx_callV, vx_callS, vx_callSW, vx_throw0, vx_throwS follow proofs of the library, with one case more: JvmDerived/Free/Laws.lean (Back.of_free), Shelf42/LK1.lean (callV, callS), Shelf/KitTraced.lean (throwNew0V, throwNewS). -/
/-- where a method has thrown q: the class by its name, the cell, what was written, the world -/
def vx_T (XC : String → State → State → Prop) (st : State) (q : Addr) (t : State) (mc ms : Nat) (free : Addr → Prop) : Prop :=
  ∃ (E : String) (ce : Cell) (L : List Loc), XC E st t ∧ t.heap[q]? = some ce ∧ ce.vm = .none ∧ st.vm.findClass E = some ce.cls ∧ st.WarmedH t.vm ∧ st.sameButNew ({ t with vm := st.vm } : State) L mc ms ∧ ∀ z ∈ L, free z.base
def vx_Q (Qc : Array Value → State → Outcome → State → Prop) (XC : String → State → State → Prop) (mc ms : Nat) (free : Addr → Prop) : Array Value → State → Outcome → State → Prop := fun a st o t =>
  (Qc a st o t ∧ ∃ L, FrameEnd st o t L mc ms ∧ ∀ q ∈ L, free q.base) ∨ ∃ q, o = .threw q ∧ vx_T XC st q t mc ms free
/-- a callee that returns or throws -/
def vx_Met (l : Launch) (y : MethodName) (ws : List Cond) (rm : Room) (Pc : Array Value → State → Prop) (Qc : Array Value → State → Outcome → State → Prop) (XC : String → State → State → Prop) (mc ms : Nat) (free : Addr → Prop) : Prop :=
  MetFree l y (headSpec ws rm) Pc (fun _ _ _ _ _ => True) (vx_Q Qc XC mc ms free)
def vx_Post (XC : String → State → State → Prop) (mc ms : Nat) (free : Addr → Prop) : Pt → Array Value → Addr → Pt → Prop := fun A a q B =>
  ∃ (g : JFrame) (mk : MethodId) (t : State) (L : List Loc) (E : String) (ce : Cell), B.U.heap = t.heap ∧ B.U.vm = t.vm ∧ XC E (A.U.calling g mk a) t ∧ t.heap[q]? = some ce ∧ ce.vm = .none ∧ A.U.vm.findClass E = some ce.cls ∧ B.locs = A.locs ++ L ∧ (∀ z ∈ L, free z.base) ∧ B.cells = A.cells + mc ∧ B.slots = A.slots + ms
def vx_Back (l : Launch) (R : Room) (p : Program) (e : Env) (below : List Frame) (s : State) (sargs : Array Value) (y : MethodName) (len W9 : Nat)
    (Pre : Pt → Array Value → Prop) (Post : Pt → Array Value → Option Value → Pt → Prop) (PostX : Pt → Array Value → Addr → Pt → Prop) : Prop :=
  ∀ (m : MethodId) (meth : Method) (c : Code) (A : Pt) (g : JFrame) (ig : Instr) (mk : MethodId) (a : Array Value),
    Stand p l e R s m sargs below meth c A.U A.locs A.cells A.slots → g.method = m → g.locals.size = c.maxLocals → decode c.code g.pc = .ok (ig, len) →
    2 * g.monitorRoom + (g.stack.map fun v => v.category).sum ≤ W9 → A.U.methodNamed? y = some mk → Pre A a →
    (∃ (v : Option Value) (B : Pt), Stand p l e R s m sargs below meth c B.U B.locs B.cells B.slots ∧ Post A a v B ∧
      Steps p.tables e below (doInvoke e (A.U.setTop g) [] mk a).1 (B.U.setTop { g with pc := g.pc + len, stack := v.toList ++ g.stack })) ∨
    (∃ (q : Addr) (B : Pt), Stand p l e R s m sargs below meth c B.U B.locs B.cells B.slots ∧ PostX A a q B ∧
      Steps p.tables e below (doInvoke e (A.U.setTop g) [] mk a).1 ((B.U.setTop g).pushFrame (.throwing q)))
section Payer
variable {l : Launch} {R : Room} {p : Program} {e : Env} {below : List Frame} {s : State} {sargs : Array Value} {y : MethodName} {len W9 : Nat}
theorem vx_back {ws : List Cond} {rm : Room} {Pc : Array Value → State → Prop} {Qc : Array Value → State → Outcome → State → Prop} {XC : String → State → State → Prop} {mc ms : Nat} {free : Addr → Prop} {bytes : ByteArray} {maxL : Nat} {ret : Option FieldType}
    (hM : vx_Met l y ws rm Pc Qc XC mc ms free) (hblind : FrameBlind Pc) (hrc : rm.cells = mc) (hrs : rm.slots = ms)
    (hframes : rm.frames + 1 ≤ R.frames) (hlocals : W9 + (maxL + 11) + rm.locals ≤ R.locals)
    (hws : ∀ w ∈ ws, ∀ a' U, s.WarmedH U.vm → w.before a' U = true) (hcode : Cond.code y bytes maxL ret ∈ ws) (hinit : ∀ a' U, s.WarmedH U.vm → (Cond.initialized y.cls).before a' U = true) :
    vx_Back l R p e below s sargs y len W9 (PreOf R mc ms Pc) (PostOf Qc mc ms free) (vx_Post XC mc ms free) := by
  intro m meth c A g ig mk a X hg hsize hdg hW hn hp
  have h1 : (headSpec ws rm).pre.before a A.U = true := atoms_intro fun w hw => hws w hw _ _ X.warmed
  have h2 : (Cond.code y bytes maxL ret).before a A.U = true := hws _ hcode _ _ X.warmed
  have h3 : (Cond.initialized y.cls).before a A.U = true := hinit _ _ X.warmed
  have h4 : A.cells + (headSpec ws rm).room.cells ≤ R.cells := by rw [show (headSpec ws rm).room.cells = mc from hrc]; exact hp.1
  have h5 : A.slots + (headSpec ws rm).room.slots ≤ R.slots := by rw [show (headSpec ws rm).room.slots = ms from hrs]; exact hp.2.1
  have hPc : Pc a (A.U.calling g mk a) := hblind _ _ _ _ hp.2.2
  obtain ⟨U, Ls, c0, s0⟩ := A
  dsimp only [Pt.U, Pt.locs, Pt.cells, Pt.slots] at h1 h2 h3 h4 h5 X hn hPc ⊢
  obtain ⟨methY, cY, hmY, hcY, -, hlY, -, -, -, -⟩ := Cond.code_spec hn h2
  obtain ⟨kY, hkY, -⟩ := className_of_methodNamed hn
  have hinitY : kY.init = .initialized := Cond.initialized_spec (findClass_of_methodNamed hn) hkY h3
  have h : At U g.method c below := by rw [hg]; exact X.here
  have hlocals9 : W9 + (maxL + 11) + (headSpec ws rm).room.locals ≤ R.locals := hlocals
  have happ : (headSpec ws rm).appliesLoose y e.platform (U.calling g mk a) = true :=
    Spec.appliesLoose_calling (g := g) h hdg hn hkY hinitY
      (X.room_calling (g := g) (R' := (headSpec ws rm).room) hsize hmY hcY hframes (by rw [hlY]; omega) h4 h5) h1
  obtain ⟨mid, hmid⟩ := h.above
  have hfr : (U.setTop g).frames = (.java g :: mid) ++ below := by rw [State.frames_setTop' g h.top, hmid]; rfl
  obtain ⟨o, s₂, hsteps, -, hend, hq⟩ := Steps.callFree hM p X.admits X.cas X.clock (acts := []) hfr happ hPc trivial
  have hq' : vx_Q Qc XC mc ms free a (U.calling g mk a) o s₂ := hq
  rw [State.frames_setTop' g h.top] at hend
  obtain ⟨g₀, hg0⟩ := Option.isSome_iff_exists.mp h.top
  obtain ⟨r, hr⟩ := State.topJava?_eq_some.mp hg0
  have hr' : (({ U with heap := s₂.heap, slotsUsed := s₂.slotsUsed } : State).setVm s₂.vm).frames = .java g₀ :: r := hr
  rcases hq' with ⟨hqc, L, hfe, hL⟩ | ⟨q, rfl, E, ce, L, hx, hce, hcv, hcl, hW₂, hsm, hL⟩
  · obtain ⟨⟨v, rfl⟩, hW₂, e2, q2, q3, q4, q5, q6⟩ := id hfe
    have e3 : s₂ = ({ (U.calling g mk a).setFrames s₂.frames with heap := s₂.heap, slotsUsed := s₂.slotsUsed } : State).setVm s₂.vm := by
      have : s₂ = ({ s₂ with vm := (U.calling g mk a).vm } : State).setVm s₂.vm := rfl
      rw [e2] at this
      exact this
    obtain ⟨c₂, i₂, len₂, hc₂, hd₂, hf₂⟩ := hend
    have hW' : U.WarmedH s₂.vm := hW₂
    have hcc : c₂ = c := by
      have h1 : s₂.code? g.method = U.code? g.method := by
        rw [State.code?_eq, State.code?_eq, hW'.alike.method?]
      exact Option.some.inj (hc₂.symm.trans (h1.trans h.code))
    subst hcc
    have hlen : len₂ = len := by rw [hdg] at hd₂; cases hd₂; rfl
    subst hlen
    have hs₂ : s₂ = (({ U with heap := s₂.heap, slotsUsed := s₂.slotsUsed } : State).setVm s₂.vm).setTop { g with pc := g.pc + len₂, stack := v.toList ++ g.stack } := by
      refine e3.trans ?_
      rw [hf₂, State.calling_eq h.top, State.setFrames_setFrames, State.setTop_of_frames _ hr', hr]
      rfl
    have hsame : U.sameButNew ({ U with heap := s₂.heap, slotsUsed := s₂.slotsUsed } : State) L mc ms := by
      refine ⟨?_, q2, q3, q4, q5, q6⟩
      obtain ⟨t, ht, -⟩ := State.frames_cons hr
      show ({ U with heap := s₂.heap, slotsUsed := s₂.slotsUsed } : State) = { U.setFrames U.frames with heap := s₂.heap, slotsUsed := s₂.slotsUsed }
      rw [State.setFrames_self ht]
    subst hg
    refine Or.inl ⟨v, ⟨(({ U with heap := s₂.heap, slotsUsed := s₂.slotsUsed } : State).setVm s₂.vm), Ls ++ L, c0 + mc, s0 + ms⟩,
      ⟨X.admits, X.cas, X.clock, X.frames, X.room, X.hears, X.method, X.code, (X.here.setHeapUsed s₂.heap s₂.slotsUsed).setVm hW'.alike, X.tail, State.WarmedH.trans X.warmed hW', X.limits, X.bytes, X.same.trans (hsame.setVm s.vm)⟩,
      ⟨g, mk, s₂, L, rfl, rfl, hqc, rfl, hL, rfl, rfl⟩, ?_⟩
    show Steps p.tables e below _ ((({ U with heap := s₂.heap, slotsUsed := s₂.slotsUsed } : State).setVm s₂.vm).setTop { g with pc := g.pc + len₂, stack := v.toList ++ g.stack })
    rw [← hs₂]
    exact hsteps
  · obtain ⟨e2, q2, q3, q4, q5, q6⟩ := id hsm
    have e3 : s₂ = ({ (U.calling g mk a).setFrames s₂.frames with heap := s₂.heap, slotsUsed := s₂.slotsUsed } : State).setVm s₂.vm := by
      have : s₂ = ({ s₂ with vm := (U.calling g mk a).vm } : State).setVm s₂.vm := rfl
      rw [e2] at this
      exact this
    have hf₂ : s₂.frames = .throwing q :: .java g :: U.frames.tail := hend
    have hW' : U.WarmedH s₂.vm := hW₂
    have hs₂ : s₂ = ((({ U with heap := s₂.heap, slotsUsed := s₂.slotsUsed } : State).setVm s₂.vm).setTop g).pushFrame (.throwing q) := by
      refine e3.trans ?_
      rw [hf₂, State.calling_eq h.top, State.setFrames_setFrames, State.pushFrame, State.frames_setTop _ hr', State.setTop_of_frames _ hr', State.setFrames_setFrames, hr]
      rfl
    have hsame : U.sameButNew ({ U with heap := s₂.heap, slotsUsed := s₂.slotsUsed } : State) L mc ms := by
      refine ⟨?_, q2, q3, q4, q5, q6⟩
      obtain ⟨t, ht, -⟩ := State.frames_cons hr
      show ({ U with heap := s₂.heap, slotsUsed := s₂.slotsUsed } : State) = { U.setFrames U.frames with heap := s₂.heap, slotsUsed := s₂.slotsUsed }
      rw [State.setFrames_self ht]
    subst hg
    refine Or.inr ⟨q, ⟨(({ U with heap := s₂.heap, slotsUsed := s₂.slotsUsed } : State).setVm s₂.vm), Ls ++ L, c0 + mc, s0 + ms⟩,
      ⟨X.admits, X.cas, X.clock, X.frames, X.room, X.hears, X.method, X.code, (X.here.setHeapUsed s₂.heap s₂.slotsUsed).setVm hW'.alike, X.tail, State.WarmedH.trans X.warmed hW', X.limits, X.bytes, X.same.trans (hsame.setVm s.vm)⟩,
      ⟨g, mk, s₂, L, E, ce, rfl, rfl, hx, hce, hcv, hcl, rfl, hL, rfl, rfl⟩, ?_⟩
    show Steps p.tables e below _ (((({ U with heap := s₂.heap, slotsUsed := s₂.slotsUsed } : State).setVm s₂.vm).setTop g).pushFrame (.throwing q))
    rw [← hs₂]
    exact hsteps
end Payer
section Calls
variable {p : Program} {l : Launch} {e : Env} {R : Room} {s : State} {m : MethodId} {args : Array Value} {below : List Frame} {meth : Method} {c : Code} {T : State} {locs : List Loc} {cells slots : Nat}
theorem vx_callV (X : Stand p l e R s m args below meth c T locs cells slots) (hexec : p.tables.exec = Jvm.exec) {own C : String} {index : Nat} {y : MethodName} {bytes : ByteArray} {maxL : Nat} {ret : Option FieldType}
    (hown : s.vm.findClass own = some m.cls) (hlink : (Cond.methodLink own index y).before args s = true) (hinst : (Cond.instanceMethod y).before args s = true) (hsel : (Cond.selects C y y).before args s = true)
    (hcode : (Cond.code y bytes maxL ret).before args s = true) (hy : y.cls ≠ "java/lang/invoke/MethodHandle" ∧ y.cls ≠ "java/lang/invoke/VarHandle")
    {W9 : Nat} {Pre : Pt → Array Value → Prop} {Post : Pt → Array Value → Option Value → Pt → Prop} {PostX : Pt → Array Value → Addr → Pt → Prop} (hK : vx_Back l R p e below s args y 3 W9 Pre Post PostX)
    {b : Addr} {cellB : Cell} (hcell : T.heap[b]? = some cellB) (hobj : cellB.vm.isStatics = false) (hcls : s.vm.findClass C = some cellB.cls)
    {g : JFrame} (hg : g.method = m) (hsize : g.locals.size = c.maxLocals) {argsL rest : List Value} (hlen : ∀ sig, parseMethodDescriptor y.desc = some sig → argsL.length = sig.parameters.length)
    (hstack : g.stack = argsL.reverse ++ .ref b :: rest) (hW : 2 * g.monitorRoom + (rest.map fun v => v.category).sum ≤ W9) (hdg : decode c.code g.pc = .ok (.invokevirtual index, 3))
    (hpre : ∀ vm₁, s.WarmedH vm₁ → Pre ⟨T.setVm vm₁, locs, cells, slots⟩ (Value.ref b :: argsL).toArray) :
    (∃ (v : Option Value) (vm₁ : Vm) (B : Pt), s.WarmedH vm₁ ∧ Stand p l e R s m args below meth c B.U B.locs B.cells B.slots ∧ Post ⟨T.setVm vm₁, locs, cells, slots⟩ (Value.ref b :: argsL).toArray v B ∧
      ∀ target, Steps p.tables e below (B.U.setTop { g with pc := g.pc + 3, stack := v.toList ++ rest }) target → Steps p.tables e below (T.setTop g) target) ∨
    (∃ (q : Addr) (vm₁ : Vm) (B : Pt), s.WarmedH vm₁ ∧ Stand p l e R s m args below meth c B.U B.locs B.cells B.slots ∧ PostX ⟨T.setVm vm₁, locs, cells, slots⟩ (Value.ref b :: argsL).toArray q B ∧
      Steps p.tables e below (T.setTop g) ((B.U.setTop { g with stack := rest }).pushFrame (.throwing q))) := by
  obtain ⟨mk, methM, hnamed, hmethM, hstM, habM⟩ := Cond.instanceMethod_spec hinst
  obtain ⟨methM', cM, hmethM', -, -, -, -, -, -, hsigM⟩ := Cond.code_spec hnamed hcode
  cases hmethM.symm.trans hmethM'
  obtain ⟨c2, r2, m2, q1, q2, q3, q4, kP, hkP, hkPi⟩ := Cond.selects_spec hsel
  cases hcls.symm.trans q1
  cases (State.methodFound?_of_named hnamed hy).symm.trans q2
  cases hnamed.symm.trans q3
  have hselP : selectMethod e.platform s.vm cellB.cls mk = .method mk := by rw [Launch.admits_selectMethod X.admits]; exact q4
  obtain ⟨vm₁, X₁, hstep₁⟩ := X.invokevirtual hexec hown hlink hnamed hmethM hstM hkP hkPi hy (a := b) (cell := cellB) hcell
    (fun z h => by rw [h] at hobj; cases hobj) hselP hmethM habM hkP hkPi (g := g) hg (argsL := argsL) (rest := rest) (hlen _ hsigM) hstack hdg
  rcases hK m meth c ⟨T.setVm vm₁, locs, cells, slots⟩ { g with stack := rest } (.invokevirtual index) mk (Value.ref b :: argsL).toArray X₁ hg hsize hdg hW (X₁.named hnamed) (hpre vm₁ X₁.warmed) with ⟨v, B, X', hpost, hsteps⟩ | ⟨q, B, X', hpost, hsteps⟩
  · exact Or.inl ⟨v, vm₁, B, X₁.warmed, X', hpost, fun target h => hstep₁ _ fun acts => by rw [doInvoke_state]; exact hsteps.trans h⟩
  · exact Or.inr ⟨q, vm₁, B, X₁.warmed, X', hpost, hstep₁ _ fun acts => by rw [doInvoke_state]; exact hsteps⟩
theorem vx_callS (X : Stand p l e R s m args below meth c T locs cells slots) (hexec : p.tables.exec = Jvm.exec) {own : String} {index : Nat} {y : MethodName} {bytes : ByteArray} {maxL : Nat} {ret : Option FieldType}
    (hown : s.vm.findClass own = some m.cls) (hlink : (Cond.methodLink own index y).before args s = true) (hstat : (Cond.static y).before args s = true) (hinit : (Cond.initialized y.cls).before args s = true)
    (hcode : (Cond.code y bytes maxL ret).before args s = true) (hy : y.cls ≠ "java/lang/invoke/MethodHandle" ∧ y.cls ≠ "java/lang/invoke/VarHandle")
    {W9 : Nat} {Pre : Pt → Array Value → Prop} {Post : Pt → Array Value → Option Value → Pt → Prop} {PostX : Pt → Array Value → Addr → Pt → Prop} (hK : vx_Back l R p e below s args y 3 W9 Pre Post PostX)
    {g : JFrame} (hg : g.method = m) (hsize : g.locals.size = c.maxLocals) {argsL rest : List Value} (hlen : ∀ sig, parseMethodDescriptor y.desc = some sig → argsL.length = sig.parameters.length)
    (hstack : g.stack = argsL.reverse ++ rest) (hW : 2 * g.monitorRoom + (rest.map fun v => v.category).sum ≤ W9) (hdg : decode c.code g.pc = .ok (.invokestatic index, 3))
    (hpre : ∀ vm₁, s.WarmedH vm₁ → Pre ⟨T.setVm vm₁, locs, cells, slots⟩ argsL.toArray) :
    (∃ (v : Option Value) (vm₁ : Vm) (B : Pt), s.WarmedH vm₁ ∧ Stand p l e R s m args below meth c B.U B.locs B.cells B.slots ∧ Post ⟨T.setVm vm₁, locs, cells, slots⟩ argsL.toArray v B ∧
      ∀ target, Steps p.tables e below (B.U.setTop { g with pc := g.pc + 3, stack := v.toList ++ rest }) target → Steps p.tables e below (T.setTop g) target) ∨
    (∃ (q : Addr) (vm₁ : Vm) (B : Pt), s.WarmedH vm₁ ∧ Stand p l e R s m args below meth c B.U B.locs B.cells B.slots ∧ PostX ⟨T.setVm vm₁, locs, cells, slots⟩ argsL.toArray q B ∧
      Steps p.tables e below (T.setTop g) ((B.U.setTop { g with stack := rest }).pushFrame (.throwing q))) := by
  obtain ⟨mk, hnamed⟩ := Cond.code_named hcode
  obtain ⟨methM, cM, hmethM, -, -, -, -, -, -, hsigM⟩ := Cond.code_spec hnamed hcode
  have hstatic : methM.isStatic = true := Cond.static_spec hnamed hmethM hstat
  obtain ⟨kP, hkP, -⟩ := className_of_methodNamed hnamed
  have hinitP : kP.init = .initialized := Cond.initialized_spec (findClass_of_methodNamed hnamed) hkP hinit
  obtain ⟨vm₁, X₁, hstep₁⟩ := X.invokestatic hexec hown hlink hnamed hmethM hstatic hkP hinitP hy (g := g) hg (argsL := argsL) (rest := rest) (hlen _ hsigM) hstack hdg
  rcases hK m meth c ⟨T.setVm vm₁, locs, cells, slots⟩ { g with stack := rest } (.invokestatic index) mk argsL.toArray X₁ hg hsize hdg hW (X₁.named hnamed) (hpre vm₁ X₁.warmed) with ⟨v, B, X', hpost, hsteps⟩ | ⟨q, B, X', hpost, hsteps⟩
  · exact Or.inl ⟨v, vm₁, B, X₁.warmed, X', hpost, fun target h => hstep₁ _ fun acts => by rw [doInvoke_state]; exact hsteps.trans h⟩
  · exact Or.inr ⟨q, vm₁, B, X₁.warmed, X', hpost, hstep₁ _ fun acts => by rw [doInvoke_state]; exact hsteps⟩
end Calls
theorem vx_cls {s : State} {T : State} {vm₁ : Vm} {E : String} {k : ClassId} (hW : s.WarmedH vm₁) (h : (T.setVm vm₁).vm.findClass E = some k) : s.vm.findClass E = some k := by
  have h1 : vm₁.findClass E = some k := h
  rw [hW.alike.findClass] at h1
  exact h1
/-- the method's frame g, with q thrown over it -/
def vx_W (p : Program) (l : Launch) (e : Env) (R : Room) (s : State) (m : MethodId) (args : Array Value) (below : List Frame) (meth : Method) (c : Code) (H : Heap) (locs : List Loc) (cells slots : Nat) (Q : State → Prop) (g : JFrame) (q : Addr) : Prop :=
  ∀ T : State, T.heap = H → Stand p l e R s m args below meth c T locs cells slots → ∃ t, Steps p.tables e below ((T.setTop g).pushFrame (.throwing q)) t ∧ Q t
def vx_Run (p : Program) (l : Launch) (e : Env) (R : Room) (s : State) (m : MethodId) (args : Array Value) (below : List Frame) (meth : Method) (c : Code) (H : Heap) (locs : List Loc) (cells slots mc ms : Nat) (g : JFrame) (rest : List Value) (Qa : State → Outcome → State → Prop) (XC : String → State → State → Prop) (free : Addr → Prop) : Prop :=
  ∀ T : State, T.heap = H → Stand p l e R s m args below meth c T locs cells slots →
    (∃ (v : Option Value) (st₀ t T' : State) (L : List Loc), st₀.heap = H ∧ Stand p l e R s m args below meth c T' (locs ++ L) (cells + mc) (slots + ms) ∧ (∀ q ∈ L, free q.base) ∧ T'.heap = t.heap ∧ T'.vm = t.vm ∧ Qa st₀ (.returned v) t ∧
      Goes p e below T g T' { g with pc := g.pc + 3, stack := v.toList ++ rest }) ∨
    (∃ (q : Addr) (st₀ t T' : State) (L : List Loc) (E : String) (ce : Cell), st₀.heap = H ∧ Stand p l e R s m args below meth c T' (locs ++ L) (cells + mc) (slots + ms) ∧ (∀ z ∈ L, free z.base) ∧ T'.heap = t.heap ∧ T'.vm = t.vm ∧ XC E st₀ t ∧ t.heap[q]? = some ce ∧ ce.vm = .none ∧ s.vm.findClass E = some ce.cls ∧
      Steps p.tables e below (T.setTop g) ((T'.setTop { g with stack := rest }).pushFrame (.throwing q)))
def vx_X {S : Type} (px : S → Prop) (B : String → S → State → Prop) (A : Nat → Prop) : String → State → State → Prop := fun E st t => ∃ u : S, px u ∧ B E u t ∧ va_F A st t
section Runs
variable {p : Program} {l : Launch} {e : Env} {R : Room} {s : State} {m : MethodId} {args : Array Value} {below : List Frame} {meth : Method} {c : Code} {H : Heap} {locs : List Loc} {cells slots : Nat}
variable {y : MethodName} {bytes cc : ByteArray} {maxL nL mc ms n index : Nat} {ret : Option FieldType} {ws : List Cond} {rm : Room} {Pc : Array Value → State → Prop} {Qc : Array Value → State → Outcome → State → Prop} {XC : String → State → State → Prop} {free : Addr → Prop} {Ts : List Cond} {own C : String} {b : Addr} {As rest : List Value} {g : JFrame}
theorem vx_callBack (cb : CallB R s args own index y bytes maxL ret ws rm mc ms n) (hM : vx_Met l y ws rm Pc Qc XC mc ms free) (hbl : FrameBlind Pc) : vx_Back l R p e below s args y 3 8 (PreOf R mc ms Pc) (PostOf Qc mc ms free) (vx_Post XC mc ms free) := by
  obtain ⟨hrc, hrs, hfr, hlo, hws, hcw, -, hini, -⟩ := cb
  exact vx_back (bytes := bytes) (maxL := maxL) (ret := ret) hM hbl hrc hrs hfr hlo hws hcw (fun a' U hW => word_at hW (Or.inl (by first | rfl | simp [Cond.onTables, Cond.keeps, Cond.steady])) hini)
theorem vx_runV (S : CallFix p m c cc nL s args Ts own) (hM : vx_Met l y ws rm Pc Qc XC mc ms free) (cw : CallW R s args own C index y bytes maxL ret ws rm mc ms n) (hp : PreV s H C b Pc As)
    (hg : g.method = m) (hn : As.length = n) (hsize : g.locals.size = nL) (hstack : g.stack = As.reverse ++ .ref b :: rest) (hW : 2 * g.monitorRoom + (rest.map fun v => v.category).sum ≤ 8) (hdg : decode cc g.pc = .ok (.invokevirtual index, 3)) (hf : cells + mc ≤ R.cells ∧ slots + ms ≤ R.slots) :
    vx_Run p l e R s m args below meth c H locs cells slots mc ms g rest (Qc (Value.ref b :: As).toArray) XC free := by
  have hK : vx_Back l R p e below s args y 3 8 (PreOf R mc ms Pc) (PostOf Qc mc ms free) (vx_Post XC mc ms free) := vx_callBack cw.1 hM hp.1
  obtain ⟨⟨-, -, -, -, -, -, hcode, -, hy, hlen, hl⟩, hin, hse⟩ := cw
  obtain ⟨hx, hb, hml, ho, -⟩ := S
  obtain ⟨-, ⟨cellB, hcB, hoB, hclB⟩, hPc⟩ := hp
  intro T hT X
  rcases vx_callV X hx (C := C) (bytes := bytes) (maxL := maxL) (ret := ret) ho hl hin hse hcode hy hK (by rw [hT]; exact hcB) hoB hclB hg (hsize.trans hml.symm) (argsL := As) (rest := rest) (fun sig h => hn.trans (hlen sig h)) hstack hW (by rw [hb]; exact hdg)
    (fun vm₁ hW₁ => ⟨hf.1, hf.2, hPc (T.setVm vm₁) hT hW₁⟩) with ⟨v, vm₁, ⟨U', l2, c2, s2⟩, hW₁, X', ⟨g', mk, t, L, e1, e2, hq, h1, hL, h2, h3⟩, st⟩ | ⟨q, vm₁, ⟨U', l2, c2, s2⟩, hW₁, X', ⟨g', mk, t, L, E, ce, e1, e2, hq, hce, hcv, hcl, h1, hL, h2, h3⟩, st⟩
  · dsimp only [Pt.U, Pt.locs, Pt.cells, Pt.slots] at X' e1 e2 h1 h2 h3 st
    subst h1; subst h2; subst h3
    exact Or.inl ⟨v, (T.setVm vm₁).calling g' mk (Value.ref b :: As).toArray, t, U', L, hT, X', hL, e1, e2, hq, st⟩
  · dsimp only [Pt.U, Pt.locs, Pt.cells, Pt.slots] at X' e1 e2 h1 h2 h3 st hcl
    subst h1; subst h2; subst h3
    exact Or.inr ⟨q, (T.setVm vm₁).calling g' mk (Value.ref b :: As).toArray, t, U', L, E, ce, hT, X', hL, e1, e2, hq, hce, hcv, vx_cls hW₁ hcl, st⟩
theorem vx_runS (S : CallFix p m c cc nL s args Ts own) (hM : vx_Met l y ws rm Pc Qc XC mc ms free) (cw : CallB R s args own index y bytes maxL ret ws rm mc ms n ∧ (Cond.static y).before args s = true) (hp : PreS s H Pc As)
    (hg : g.method = m) (hn : As.length = n) (hsize : g.locals.size = nL) (hstack : g.stack = As.reverse ++ rest) (hW : 2 * g.monitorRoom + (rest.map fun v => v.category).sum ≤ 8) (hdg : decode cc g.pc = .ok (.invokestatic index, 3)) (hf : cells + mc ≤ R.cells ∧ slots + ms ≤ R.slots) :
    vx_Run p l e R s m args below meth c H locs cells slots mc ms g rest (Qc As.toArray) XC free := by
  have hK : vx_Back l R p e below s args y 3 8 (PreOf R mc ms Pc) (PostOf Qc mc ms free) (vx_Post XC mc ms free) := vx_callBack cw.1 hM hp.1
  obtain ⟨⟨-, -, -, -, -, -, hcode, hini, hy, hlen, hl⟩, hstt⟩ := cw
  obtain ⟨hx, hb, hml, ho, -⟩ := S
  intro T hT X
  rcases vx_callS X hx (bytes := bytes) (maxL := maxL) (ret := ret) ho hl hstt hini hcode hy hK hg (hsize.trans hml.symm) (argsL := As) (rest := rest) (fun sig h => hn.trans (hlen sig h)) hstack hW (by rw [hb]; exact hdg)
    (fun vm₁ hW₁ => ⟨hf.1, hf.2, hp.2 (T.setVm vm₁) hT hW₁⟩) with ⟨v, vm₁, ⟨U', l2, c2, s2⟩, hW₁, X', ⟨g', mk, t, L, e1, e2, hq, h1, hL, h2, h3⟩, st⟩ | ⟨q, vm₁, ⟨U', l2, c2, s2⟩, hW₁, X', ⟨g', mk, t, L, E, ce, e1, e2, hq, hce, hcv, hcl, h1, hL, h2, h3⟩, st⟩
  · dsimp only [Pt.U, Pt.locs, Pt.cells, Pt.slots] at X' e1 e2 h1 h2 h3 st
    subst h1; subst h2; subst h3
    exact Or.inl ⟨v, (T.setVm vm₁).calling g' mk As.toArray, t, U', L, hT, X', hL, e1, e2, hq, st⟩
  · dsimp only [Pt.U, Pt.locs, Pt.cells, Pt.slots] at X' e1 e2 h1 h2 h3 st hcl
    subst h1; subst h2; subst h3
    exact Or.inr ⟨q, (T.setVm vm₁).calling g' mk As.toArray, t, U', L, E, ce, hT, X', hL, e1, e2, hq, hce, hcv, vx_cls hW₁ hcl, st⟩
end Runs
section Rows
variable {p : Program} {l : Launch} {e : Env} {R : Room} {s : State} {m : MethodId} {args : Array Value} {below : List Frame} {meth : Method} {c : Code} {H : Heap} {locs : List Loc} {cells slots : Nat} {Q : State → Prop}
variable {mc ms : Nat} {free : Addr → Prop} {A0 A1 : Nat → Prop} {H0 : Heap} {a : Array Value} {pc : Nat} {ls : Array Slot} {st0 rest : List Value}
theorem vx_keep {st₀ t T' : State} {L : List Loc} (h0 : st₀.heap = H) (e1 : T'.heap = t.heap) (hS : va_S A0 H0 H locs) (hA : ∀ q, q < H.size → A1 q → A0 q) (hf : ∀ q, free q → A0 q) (hL : ∀ q ∈ L, free q.base) (hF : va_F A1 st₀ t) :
    H.size ≤ T'.heap.size ∧ (∀ q : Nat, q < H.size → ¬ A1 q → T'.heap[q]? = H[q]?) ∧ va_S A0 H0 T'.heap (locs ++ L) := by
  obtain ⟨hz, hk⟩ := hF
  rw [h0] at hz hk
  exact ⟨by rw [e1]; exact hz, fun q h1 h2 => by rw [e1]; exact hk q h1 h2,
    ⟨Nat.le_trans hS.1 (by rw [e1]; exact hz), fun q h1 h2 => by rw [e1, hk q (Nat.lt_of_lt_of_le h1 hS.1) (fun z => h2 (hA q (Nat.lt_of_lt_of_le h1 hS.1) z))]; exact hS.2.1 q h1 h2, fun q hq => by
      rcases List.mem_append.mp hq with h | h
      · exact hS.2.2 q h
      · exact hf _ (hL q h)⟩⟩
theorem vx_calli {S SX : Type} {post : Int32 → S → Prop} {px : SX → Prop} {B : S → State → Prop} {BX : String → SX → State → Prop} {AX : Nat → Prop} (hr : vx_Run p l e R s m args below meth c H locs cells slots mc ms (F0 m pc ls st0) rest (va_Qi post B A1 a) (vx_X px BX AX) free) (hS : va_S A0 H0 H locs) (hA : ∀ q, q < H.size → A1 q → A0 q) (hf : ∀ q, free q → A0 q) (hAX : ∀ q, q < H.size → AX q → A0 q)
    (kx : ∀ (E : String) (ce : Cell) (q9 : Addr) (u : SX) (t : State) (H1 : Heap) (locs1 : List Loc), t.heap = H1 → s.vm.Alike t.vm → px u → BX E u t → H.size ≤ H1.size → (∀ q : Nat, q < H.size → ¬ AX q → H1[q]? = H[q]?) → va_S A0 H0 H1 locs1 → H1[q9]? = some ce → ce.vm = .none → s.vm.findClass E = some ce.cls → vx_W p l e R s m args below meth c H1 locs1 (cells + mc) (slots + ms) Q (F0 m pc ls rest) q9)
    (kk : ∀ (r : Int32) (u : S) (t : State) (H1 : Heap) (locs1 : List Loc), t.heap = H1 → s.vm.Alike t.vm → post r u → B u t → H.size ≤ H1.size → (∀ q : Nat, q < H.size → ¬ A1 q → H1[q]? = H[q]?) → va_S A0 H0 H1 locs1 → W p l e R s m args below meth c H1 locs1 (cells + mc) (slots + ms) Q (F0 m (pc + 3) ls (.int r :: rest))) : W p l e R s m args below meth c H locs cells slots Q (F0 m pc ls st0) := by
  intro T hT X
  rcases hr T hT X with ⟨v, st₀, t, T', L, h0, X', hL, e1, e2, ⟨⟨r, u, hv, hp, hb⟩, hF⟩, st⟩ | ⟨q, st₀, t, T', L, E, ce, h0, X', hL, e1, e2, ⟨u, hp, hb, hF⟩, hce, hcv, hcl, st⟩
  · cases hv
    obtain ⟨k1, k2, k3⟩ := vx_keep h0 e1 hS hA hf hL hF
    obtain ⟨t2, a1, b1⟩ := kk r u t T'.heap (locs ++ L) e1.symm (by rw [← e2]; exact X'.warmed.alike) hp hb k1 k2 k3 T' rfl X'
    exact ⟨t2, st t2 a1, b1⟩
  · obtain ⟨k1, k2, k3⟩ := vx_keep h0 e1 hS hAX hf hL hF
    obtain ⟨t2, a1, b1⟩ := kx E ce q u t T'.heap (locs ++ L) e1.symm (by rw [← e2]; exact X'.warmed.alike) hp hb k1 k2 k3 (by rw [e1]; exact hce) hcv hcl T' rfl X'
    exact ⟨t2, st.trans a1, b1⟩
theorem vx_calll {S SX : Type} {post : Int64 → S → Prop} {px : SX → Prop} {B : S → State → Prop} {BX : String → SX → State → Prop} {AX : Nat → Prop} (hr : vx_Run p l e R s m args below meth c H locs cells slots mc ms (F0 m pc ls st0) rest (va_Ql post B A1 a) (vx_X px BX AX) free) (hS : va_S A0 H0 H locs) (hA : ∀ q, q < H.size → A1 q → A0 q) (hf : ∀ q, free q → A0 q) (hAX : ∀ q, q < H.size → AX q → A0 q)
    (kx : ∀ (E : String) (ce : Cell) (q9 : Addr) (u : SX) (t : State) (H1 : Heap) (locs1 : List Loc), t.heap = H1 → s.vm.Alike t.vm → px u → BX E u t → H.size ≤ H1.size → (∀ q : Nat, q < H.size → ¬ AX q → H1[q]? = H[q]?) → va_S A0 H0 H1 locs1 → H1[q9]? = some ce → ce.vm = .none → s.vm.findClass E = some ce.cls → vx_W p l e R s m args below meth c H1 locs1 (cells + mc) (slots + ms) Q (F0 m pc ls rest) q9)
    (kk : ∀ (r : Int64) (u : S) (t : State) (H1 : Heap) (locs1 : List Loc), t.heap = H1 → s.vm.Alike t.vm → post r u → B u t → H.size ≤ H1.size → (∀ q : Nat, q < H.size → ¬ A1 q → H1[q]? = H[q]?) → va_S A0 H0 H1 locs1 → W p l e R s m args below meth c H1 locs1 (cells + mc) (slots + ms) Q (F0 m (pc + 3) ls (.long r :: rest))) : W p l e R s m args below meth c H locs cells slots Q (F0 m pc ls st0) := by
  intro T hT X
  rcases hr T hT X with ⟨v, st₀, t, T', L, h0, X', hL, e1, e2, ⟨⟨r, u, hv, hp, hb⟩, hF⟩, st⟩ | ⟨q, st₀, t, T', L, E, ce, h0, X', hL, e1, e2, ⟨u, hp, hb, hF⟩, hce, hcv, hcl, st⟩
  · cases hv
    obtain ⟨k1, k2, k3⟩ := vx_keep h0 e1 hS hA hf hL hF
    obtain ⟨t2, a1, b1⟩ := kk r u t T'.heap (locs ++ L) e1.symm (by rw [← e2]; exact X'.warmed.alike) hp hb k1 k2 k3 T' rfl X'
    exact ⟨t2, st t2 a1, b1⟩
  · obtain ⟨k1, k2, k3⟩ := vx_keep h0 e1 hS hAX hf hL hF
    obtain ⟨t2, a1, b1⟩ := kx E ce q u t T'.heap (locs ++ L) e1.symm (by rw [← e2]; exact X'.warmed.alike) hp hb k1 k2 k3 (by rw [e1]; exact hce) hcv hcl T' rfl X'
    exact ⟨t2, st.trans a1, b1⟩
theorem vx_callf {S SX : Type} {post : UInt32 → S → Prop} {px : SX → Prop} {B : S → State → Prop} {BX : String → SX → State → Prop} {AX : Nat → Prop} (hr : vx_Run p l e R s m args below meth c H locs cells slots mc ms (F0 m pc ls st0) rest (va_Qf post B A1 a) (vx_X px BX AX) free) (hS : va_S A0 H0 H locs) (hA : ∀ q, q < H.size → A1 q → A0 q) (hf : ∀ q, free q → A0 q) (hAX : ∀ q, q < H.size → AX q → A0 q)
    (kx : ∀ (E : String) (ce : Cell) (q9 : Addr) (u : SX) (t : State) (H1 : Heap) (locs1 : List Loc), t.heap = H1 → s.vm.Alike t.vm → px u → BX E u t → H.size ≤ H1.size → (∀ q : Nat, q < H.size → ¬ AX q → H1[q]? = H[q]?) → va_S A0 H0 H1 locs1 → H1[q9]? = some ce → ce.vm = .none → s.vm.findClass E = some ce.cls → vx_W p l e R s m args below meth c H1 locs1 (cells + mc) (slots + ms) Q (F0 m pc ls rest) q9)
    (kk : ∀ (r : UInt32) (u : S) (t : State) (H1 : Heap) (locs1 : List Loc), t.heap = H1 → s.vm.Alike t.vm → post r u → B u t → H.size ≤ H1.size → (∀ q : Nat, q < H.size → ¬ A1 q → H1[q]? = H[q]?) → va_S A0 H0 H1 locs1 → W p l e R s m args below meth c H1 locs1 (cells + mc) (slots + ms) Q (F0 m (pc + 3) ls (.float r :: rest))) : W p l e R s m args below meth c H locs cells slots Q (F0 m pc ls st0) := by
  intro T hT X
  rcases hr T hT X with ⟨v, st₀, t, T', L, h0, X', hL, e1, e2, ⟨⟨r, u, hv, hp, hb⟩, hF⟩, st⟩ | ⟨q, st₀, t, T', L, E, ce, h0, X', hL, e1, e2, ⟨u, hp, hb, hF⟩, hce, hcv, hcl, st⟩
  · cases hv
    obtain ⟨k1, k2, k3⟩ := vx_keep h0 e1 hS hA hf hL hF
    obtain ⟨t2, a1, b1⟩ := kk r u t T'.heap (locs ++ L) e1.symm (by rw [← e2]; exact X'.warmed.alike) hp hb k1 k2 k3 T' rfl X'
    exact ⟨t2, st t2 a1, b1⟩
  · obtain ⟨k1, k2, k3⟩ := vx_keep h0 e1 hS hAX hf hL hF
    obtain ⟨t2, a1, b1⟩ := kx E ce q u t T'.heap (locs ++ L) e1.symm (by rw [← e2]; exact X'.warmed.alike) hp hb k1 k2 k3 (by rw [e1]; exact hce) hcv hcl T' rfl X'
    exact ⟨t2, st.trans a1, b1⟩
theorem vx_calld {S SX : Type} {post : UInt64 → S → Prop} {px : SX → Prop} {B : S → State → Prop} {BX : String → SX → State → Prop} {AX : Nat → Prop} (hr : vx_Run p l e R s m args below meth c H locs cells slots mc ms (F0 m pc ls st0) rest (va_Qd post B A1 a) (vx_X px BX AX) free) (hS : va_S A0 H0 H locs) (hA : ∀ q, q < H.size → A1 q → A0 q) (hf : ∀ q, free q → A0 q) (hAX : ∀ q, q < H.size → AX q → A0 q)
    (kx : ∀ (E : String) (ce : Cell) (q9 : Addr) (u : SX) (t : State) (H1 : Heap) (locs1 : List Loc), t.heap = H1 → s.vm.Alike t.vm → px u → BX E u t → H.size ≤ H1.size → (∀ q : Nat, q < H.size → ¬ AX q → H1[q]? = H[q]?) → va_S A0 H0 H1 locs1 → H1[q9]? = some ce → ce.vm = .none → s.vm.findClass E = some ce.cls → vx_W p l e R s m args below meth c H1 locs1 (cells + mc) (slots + ms) Q (F0 m pc ls rest) q9)
    (kk : ∀ (r : UInt64) (u : S) (t : State) (H1 : Heap) (locs1 : List Loc), t.heap = H1 → s.vm.Alike t.vm → post r u → B u t → H.size ≤ H1.size → (∀ q : Nat, q < H.size → ¬ A1 q → H1[q]? = H[q]?) → va_S A0 H0 H1 locs1 → W p l e R s m args below meth c H1 locs1 (cells + mc) (slots + ms) Q (F0 m (pc + 3) ls (.double r :: rest))) : W p l e R s m args below meth c H locs cells slots Q (F0 m pc ls st0) := by
  intro T hT X
  rcases hr T hT X with ⟨v, st₀, t, T', L, h0, X', hL, e1, e2, ⟨⟨r, u, hv, hp, hb⟩, hF⟩, st⟩ | ⟨q, st₀, t, T', L, E, ce, h0, X', hL, e1, e2, ⟨u, hp, hb, hF⟩, hce, hcv, hcl, st⟩
  · cases hv
    obtain ⟨k1, k2, k3⟩ := vx_keep h0 e1 hS hA hf hL hF
    obtain ⟨t2, a1, b1⟩ := kk r u t T'.heap (locs ++ L) e1.symm (by rw [← e2]; exact X'.warmed.alike) hp hb k1 k2 k3 T' rfl X'
    exact ⟨t2, st t2 a1, b1⟩
  · obtain ⟨k1, k2, k3⟩ := vx_keep h0 e1 hS hAX hf hL hF
    obtain ⟨t2, a1, b1⟩ := kx E ce q u t T'.heap (locs ++ L) e1.symm (by rw [← e2]; exact X'.warmed.alike) hp hb k1 k2 k3 (by rw [e1]; exact hce) hcv hcl T' rfl X'
    exact ⟨t2, st.trans a1, b1⟩
theorem vx_callv {S SX : Type} {post : S → Prop} {px : SX → Prop} {B : S → State → Prop} {BX : String → SX → State → Prop} {AX : Nat → Prop} (hr : vx_Run p l e R s m args below meth c H locs cells slots mc ms (F0 m pc ls st0) rest (va_Qv post B A1 a) (vx_X px BX AX) free) (hS : va_S A0 H0 H locs) (hA : ∀ q, q < H.size → A1 q → A0 q) (hf : ∀ q, free q → A0 q) (hAX : ∀ q, q < H.size → AX q → A0 q)
    (kx : ∀ (E : String) (ce : Cell) (q9 : Addr) (u : SX) (t : State) (H1 : Heap) (locs1 : List Loc), t.heap = H1 → s.vm.Alike t.vm → px u → BX E u t → H.size ≤ H1.size → (∀ q : Nat, q < H.size → ¬ AX q → H1[q]? = H[q]?) → va_S A0 H0 H1 locs1 → H1[q9]? = some ce → ce.vm = .none → s.vm.findClass E = some ce.cls → vx_W p l e R s m args below meth c H1 locs1 (cells + mc) (slots + ms) Q (F0 m pc ls rest) q9)
    (kk : ∀ (u : S) (t : State) (H1 : Heap) (locs1 : List Loc), t.heap = H1 → s.vm.Alike t.vm → post u → B u t → H.size ≤ H1.size → (∀ q : Nat, q < H.size → ¬ A1 q → H1[q]? = H[q]?) → va_S A0 H0 H1 locs1 → W p l e R s m args below meth c H1 locs1 (cells + mc) (slots + ms) Q (F0 m (pc + 3) ls (rest))) : W p l e R s m args below meth c H locs cells slots Q (F0 m pc ls st0) := by
  intro T hT X
  rcases hr T hT X with ⟨v, st₀, t, T', L, h0, X', hL, e1, e2, ⟨⟨u, hv, hp, hb⟩, hF⟩, st⟩ | ⟨q, st₀, t, T', L, E, ce, h0, X', hL, e1, e2, ⟨u, hp, hb, hF⟩, hce, hcv, hcl, st⟩
  · cases hv
    obtain ⟨k1, k2, k3⟩ := vx_keep h0 e1 hS hA hf hL hF
    obtain ⟨t2, a1, b1⟩ := kk u t T'.heap (locs ++ L) e1.symm (by rw [← e2]; exact X'.warmed.alike) hp hb k1 k2 k3 T' rfl X'
    exact ⟨t2, st t2 a1, b1⟩
  · obtain ⟨k1, k2, k3⟩ := vx_keep h0 e1 hS hAX hf hL hF
    obtain ⟨t2, a1, b1⟩ := kx E ce q u t T'.heap (locs ++ L) e1.symm (by rw [← e2]; exact X'.warmed.alike) hp hb k1 k2 k3 (by rw [e1]; exact hce) hcv hcl T' rfl X'
    exact ⟨t2, st.trans a1, b1⟩
/-- caught by the row x of this method's table; the rows ahead don't take it -/
theorem vx_catch {own name : String} {E : String} {ce : Cell} {q : Addr} (hown : s.vm.findClass own = some m.cls) (pre : List ExceptionTableEntry) (x : ExceptionTableEntry) (suf : List ExceptionTableEntry) (hsplit : c.exceptionTable.toList = pre ++ x :: suf)
    (hpass : ∀ z ∈ pre, covers z pc = false ∨ (z.catchType ≠ 0 ∧ ∃ nm : String, (Cond.classLink own z.catchType nm).before args s = true ∧ va_Nc E nm s)) (hx : covers x pc = true) (h0 : x.catchType ≠ 0)
    (hlink : (Cond.classLink own x.catchType name).before args s = true) (hcast : (Cond.castable E name).before args s = true) (hcell : H[q]? = some ce) (hv : ce.vm = .none) (hcl : s.vm.findClass E = some ce.cls)
    (kk : W p l e R s m args below meth c H locs cells slots Q (F0 m x.handlerPc ls [.ref q])) : vx_W p l e R s m args below meth c H locs cells slots Q (F0 m pc ls rest) q := by
  intro T hT X
  have hpl : e.platform.magicAccessors = ({} : Platform).magicAccessors := by rw [X.admits.platform]
  obtain ⟨c3, c4, hc3, hc4, hasg⟩ := Cond.castable_spec hcast
  cases Option.some.inj (hc3.symm.trans hcl)
  obtain ⟨c5, hc5, hcl5⟩ := Cond.classLink_spec hown hlink e.platform hpl
  cases Option.some.inj (hc4.symm.trans hc5)
  obtain ⟨vm', X', st⟩ := X.thenCaughtThrough q (g := F0 m pc ls rest) rfl (Steps.refl _) (by rw [hT]; exact hcell) (by rw [hv]; rfl) (by obtain ⟨k9, h9, -⟩ := Vm.findClass_spec hcl; exact ⟨k9, h9⟩) pre x suf hsplit
    (fun z hz => by
      rcases hpass z hz with h | ⟨hz0, nm, hl1, hn1⟩
      · exact Or.inl h
      · obtain ⟨c6, hc6, hcl6⟩ := Cond.classLink_spec hown hl1 e.platform hpl
        obtain ⟨a8, b8, h1, h2, h3⟩ := hn1
        cases Option.some.inj (h1.symm.trans hcl)
        cases Option.some.inj (h2.symm.trans hc6)
        exact Or.inr ⟨hz0, _, hcl6, h3⟩) hx (Or.inr ⟨h0, c4, hcl5, hasg⟩)
  obtain ⟨t, a1, b1⟩ := kk (T.setVm vm') hT X'
  exact ⟨t, st.trans a1, b1⟩
end Rows
section Ends
variable {p : Program} {l : Launch} {e : Env} {R : Room} {s : State} {m : MethodId} {args : Array Value} {below : List Frame} {meth : Method} {c : Code} {H : Heap} {locs : List Loc} {cells slots : Nat} {Q : State → Prop}
variable {mc ms : Nat} {free : Addr → Prop} {A0 A1 : Nat → Prop} {H0 : Heap} {a : Array Value} {ls : Array Slot} {st0 rest : List Value}
variable {Qc : Array Value → State → Outcome → State → Prop} {XC : String → State → State → Prop}
/-- what a body that may throw owes at its end -/
def vx_MQ (below : List Frame) (Qc : Array Value → State → Outcome → State → Prop) (XC : String → State → State → Prop) (a : Array Value) (s : State) (mc ms : Nat) (free : Addr → Prop) : State → Prop := fun t =>
  ∃ o, t.status = .running ∧ Ended t below o ∧ vx_Q Qc XC mc ms free a s o t
theorem vx_ret {g : JFrame} {mc ms : Nat} (k : W p l e R s m args below meth c H locs cells slots (MQ below Qc args s mc ms free) g) : W p l e R s m args below meth c H locs cells slots (vx_MQ below Qc XC args s mc ms free) g := by
  intro T hT X
  obtain ⟨t, a1, o, b1, b2, b3, b4⟩ := k T hT X
  exact ⟨t, a1, o, b1, b2, Or.inl ⟨b3, b4⟩⟩
/-- not caught here: it goes on to the caller -/
theorem vx_widen {g : JFrame} {q : Addr} {k n : Nat} (h1 : cells ≤ k) (h2 : slots ≤ n) (kk : vx_W p l e R s m args below meth c H locs k n Q g q) : vx_W p l e R s m args below meth c H locs cells slots Q g q := fun T hT X => kk T hT (stand_widen X h1 h2)
theorem vx_out {pc : Nat} {E : String} {ce : Cell} {q : Addr} {mc ms : Nat} (hout : ∀ x ∈ c.exceptionTable.toList, covers x pc = false) (hlocks : meth.locks = false) (hcell : H[q]? = some ce) (hv : ce.vm = .none) (hcl : s.vm.findClass E = some ce.cls)
    (hx : ∀ t : State, t.heap = H → s.vm.Alike t.vm → XC E s t) (hf : ∀ z ∈ locs, free z.base) (hc : cells ≤ mc) (hs : slots ≤ ms) :
    vx_W p l e R s m args below meth c H locs cells slots (vx_MQ below Qc XC args s mc ms free) (F0 m pc ls rest) q := by
  intro T hT X
  obtain ⟨st1, hrun, hend, hW, hsm⟩ := X.leaveThrown q (g := F0 m pc ls rest) rfl rfl rfl hout hlocks
  have hcell9 : (T.setFrames (.throwing q :: below)).heap[q]? = some ce := by
    show T.heap[q]? = some ce
    rw [hT]; exact hcell
  exact ⟨_, st1, .threw q, hrun, hend, Or.inr ⟨q, rfl, E, ce, locs, hx _ hT hW.alike, hcell9, hv, hcl, hW, hsm.mono hc hs, hf⟩⟩
theorem vx_frame {U : State} {k n : Nat} (h : s.sameButNew ({ U with vm := s.vm } : State) locs k n) : s.heap.size ≤ U.heap.size ∧ ∀ q : Nat, q < s.heap.size → (∀ z ∈ locs, z.base ≠ q) → U.heap[q]? = s.heap[q]? := by
  obtain ⟨-, h2, -, -, -, h6⟩ := h
  refine ⟨h2, fun q hq hz => ?_⟩
  obtain ⟨c9, e1, e2, e3, e4⟩ := h6 q _ (Array.getElem?_eq_getElem hq)
  have hs : c9.slots = (s.heap[q]).slots := Array.ext_getElem? fun i => e4 i fun hm => hz _ hm rfl
  have h9 : c9 = s.heap[q] := by
    rw [hs] at e2
    exact e2
  have e5 : U.heap[q]? = some c9 := e1
  rw [e5, h9, Array.getElem?_eq_getElem hq]
/-- the words of a throw but the four that speak of the heap -/
def vx_no (w : Cond) : Bool := decide (w ≠ .isRef (.static Bundle.tN "UNASSIGNED_STACK" Bundle.steD)) && decide (w ≠ .isRef (.static Bundle.tN "SUPPRESSED_SENTINEL" Bundle.listD)) && decide (w ≠ .laysStatic Bundle.tN "UNASSIGNED_STACK" Bundle.steD) && decide (w ≠ .laysStatic Bundle.tN "SUPPRESSED_SENTINEL" Bundle.listD)
def vx_at0 (own : String) (ic : Nat) (X : String) (names : List String) : List Cond := (Bundle.ownAtoms0 own ic X names).filter vx_no
def vx_atS (own : String) (ic : Nat) (X : String) (names : List String) : List Cond := (Bundle.ownAtoms own ic X names).filter vx_no
/-- a word that the tables alone decide, or a good one -/
def vx_ot (w : Cond) : Bool := w.onTables || goodWord w
theorem vx_ot_at {args a' : Array Value} {s U : State} {w : Cond} (hW : s.WarmedH U.vm) (hvm : s.vm = U.vm) (hg : vx_ot w = true) (h : w.before args s = true) : w.before a' U = true := by
  simp only [vx_ot, Bool.or_eq_true] at hg
  rcases hg with hg | hg
  · exact va_tabs hg hvm h
  · exact word_at hW (good_of_word hg) h
/-- a list's words: the good ones out of the method's own list, the others by premises of their own -/
theorem vx_hat {args : Array Value} {s : State} {L B : List Cond} (h1 : ∀ w ∈ L.filter goodWord, w.before args s = true) (h2 : ∀ w ∈ L.filter (fun w => !goodWord w), w ∈ B) (h3 : ∀ w ∈ B, w.before args s = true) : ∀ w ∈ L, w.before args s = true := by
  intro w hw
  by_cases g : goodWord w = true
  · exact h1 w (List.mem_filter.mpr ⟨hw, g⟩)
  · refine h3 w (h2 w (List.mem_filter.mpr ⟨hw, ?_⟩))
    show (!goodWord w) = true
    cases hgw : goodWord w
    · rfl
    · exact absurd hgw g
theorem vx_c {args : Array Value} {s : State} {w : Cond} {B : List Cond} (h : w.before args s = true) (t : ∀ w ∈ B, w.before args s = true) : ∀ w' ∈ w :: B, w'.before args s = true := fun w' h' => (List.mem_cons.mp h').elim (fun e => by rw [e]; exact h) (t w')
theorem vx_n {args : Array Value} {s : State} : ∀ w ∈ ([] : List Cond), w.before args s = true := fun _ h => nomatch h
theorem vx_own {args : Array Value} {s : State} {L : List Cond} (h1 : ∀ w ∈ L.filter vx_no, w.before args s = true)
    (hU : (Cond.isRef (.static Bundle.tN "UNASSIGNED_STACK" Bundle.steD)).before args s = true) (hN : (Cond.isRef (.static Bundle.tN "SUPPRESSED_SENTINEL" Bundle.listD)).before args s = true)
    (lU : (Cond.laysStatic Bundle.tN "UNASSIGNED_STACK" Bundle.steD).before args s = true) (lN : (Cond.laysStatic Bundle.tN "SUPPRESSED_SENTINEL" Bundle.listD).before args s = true) : ∀ w ∈ L, w.before args s = true := by
  intro w hw
  by_cases e1 : w = .isRef (.static Bundle.tN "UNASSIGNED_STACK" Bundle.steD)
  · rw [e1]; exact hU
  · by_cases e2 : w = .isRef (.static Bundle.tN "SUPPRESSED_SENTINEL" Bundle.listD)
    · rw [e2]; exact hN
    · by_cases e3 : w = .laysStatic Bundle.tN "UNASSIGNED_STACK" Bundle.steD
      · rw [e3]; exact lU
      · by_cases e4 : w = .laysStatic Bundle.tN "SUPPRESSED_SENTINEL" Bundle.listD
        · rw [e4]; exact lN
        · exact h1 w (List.mem_filter.mpr ⟨hw, by unfold vx_no; rw [decide_eq_true e1, decide_eq_true e2, decide_eq_true e3, decide_eq_true e4]; rfl⟩)
/-- where a static field lies, its class's statics cell in H -/
def vx_L (C n d : String) (A : Nat → Prop) (U : State) (H : Heap) : Prop := ∃ (c : ClassId) (k : Class) (i : Nat) (f : Field) (a : Nat) (cell : Cell), U.vm.findClass C = some c ∧ U.fieldFound? C n d = some (c, k, i, f) ∧ f.isStatic = true ∧ k.statics = some a ∧ H[a]? = some cell ∧ cell.vm.isStatics = true ∧ cell.cls = c ∧ f.slot < cell.slots.size ∧ k.staticTypes[f.slot]? = some f.type ∧ ¬ A a
theorem vx_L.moved {C n d : String} {A : Nat → Prop} {u U : State} {H : Heap} (hvm : u.vm.Alike U.vm) (h : vx_L C n d A u H) : vx_L C n d A U H := by
  obtain ⟨c, k, i, f, a, cell, h1, h2, h3, h4, h5, h6, h7, h8, h9, h10⟩ := h
  obtain ⟨k', hi', he⟩ := State.fieldFound?_setVm hvm h2
  exact ⟨c, k', i, f, a, cell, by rw [hvm.findClass]; exact h1, hi', h3, by rw [he]; exact h4, h5, h6, h7, h8, by rw [he]; exact h9, h10⟩
theorem vx_L.kept {C n d : String} {A : Nat → Prop} {U : State} {H H1 : Heap} (h : vx_L C n d A U H) (hq : ∀ a : Nat, a < H.size → ¬ A a → H1[a]? = H[a]?) : vx_L C n d A U H1 := by
  obtain ⟨c, k, i, f, a, cell, h1, h2, h3, h4, h5, h6, h7, h8, h9, h10⟩ := h
  exact ⟨c, k, i, f, a, cell, h1, h2, h3, h4, by rw [hq a (Array.getElem?_eq_some_iff.mp h5).1 h10]; exact h5, h6, h7, h8, h9, h10⟩
theorem vx_L.narrow {C n d : String} {A B : Nat → Prop} {U : State} {H : Heap} (h : vx_L C n d A U H) (hAB : ∀ q, B q → A q) : vx_L C n d B U H := by
  obtain ⟨c, k, i, f, a, cell, h1, h2, h3, h4, h5, h6, h7, h8, h9, h10⟩ := h
  exact ⟨c, k, i, f, a, cell, h1, h2, h3, h4, h5, h6, h7, h8, h9, fun z => h10 (hAB _ z)⟩
theorem vx_L.word {C n d : String} {A : Nat → Prop} {s : State} {args : Array Value} (h : vx_L C n d A s s.heap) : (Cond.laysStatic C n d).before args s = true := by
  obtain ⟨c, k, i, f, a, cell, h1, h2, h3, h4, h5, h6, h7, h8, h9, -⟩ := h
  show (Cond.laysStatic C n d).holds args s none s [] = true
  exact Cond.laysStatic_of h1 h2 h3 h4 h5 h6 h7 h8 h9
/-- .. and what it holds: null or some reference -/
def vx_Zq (C n d : String) (A : Nat → Prop) (U : State) (H : Heap) : Prop := va_Zq C n d A U H ∧ vx_L C n d A U H
theorem vx_Zq.moved {C n d : String} {A : Nat → Prop} {u U : State} {H : Heap} (hvm : u.vm.Alike U.vm) (h : vx_Zq C n d A u H) : vx_Zq C n d A U H := ⟨va_Zq.moved hvm h.1, vx_L.moved hvm h.2⟩
theorem vx_Zq.kept {C n d : String} {A : Nat → Prop} {U : State} {H H1 : Heap} (h : vx_Zq C n d A U H) (hq : ∀ a : Nat, a < H.size → ¬ A a → H1[a]? = H[a]?) : vx_Zq C n d A U H1 := ⟨va_Zq.kept h.1 hq, vx_L.kept h.2 hq⟩
theorem vx_Zq.narrow {C n d : String} {A B : Nat → Prop} {U : State} {H : Heap} (h : vx_Zq C n d A U H) (hAB : ∀ q, B q → A q) : vx_Zq C n d B U H := ⟨va_Zq.narrow h.1 hAB, vx_L.narrow h.2 hAB⟩
theorem vx_Zqof {args : Array Value} {s : State} {C n d : String} {A : Nat → Prop} (hl : (Cond.laysStatic C n d).before args s = true) (hini : (Cond.initialized C).before args s = true) (h : (Cond.isRef (.static C n d)).before args s = true) (hA : ∀ a : Nat, a < s.heap.size → ¬ A a) : vx_Zq C n d A s s.heap := by
  refine ⟨va_Zqof hl hini h hA, ?_⟩
  obtain ⟨c, k, i, f, a, cell, h1, h2, h3, h4, h5, h6, h7, h8, h9⟩ := Cond.laysStatic_spec hl
  exact ⟨c, k, i, f, a, cell, h1, h2, h3, h4, h5, h6, h7, h8, h9, hA a (Array.getElem?_eq_some_iff.mp h5).1⟩
theorem vx_isRef {C n d : String} {v : Value} {A : Nat → Prop} {s : State} {args : Array Value} (h : va_Z C n d v A s s.heap) (hv : v.isRef = true) : (Cond.isRef (.static C n d)).before args s = true := by
  obtain ⟨cf, kf, fi, f, a, cell, h1, h2, h3, h4, h5, h6, h7, -⟩ := h
  have he : (Term.static C n d).eval args s none [] s = some v := by
    simp [Term.eval, State.fieldNamed?, h1, h2, h4, h5, h6, h7]
  simp only [Cond.before, Cond.holds, Cond.value, he]
  cases v <;> simp_all [Value.isRef]
theorem vx_isRefq {C n d : String} {A : Nat → Prop} {s : State} {args : Array Value} (h : va_Zq C n d A s s.heap) : (Cond.isRef (.static C n d)).before args s = true := by
  rcases h with h | ⟨t, h⟩
  · exact vx_isRef h rfl
  · exact vx_isRef h rfl
/-- the same frame, seen from here: as if the method were called anew in this heap -/
theorem vx_rebase {T : State} (X : Stand p l e R s m args below meth c T locs cells slots) {R' : Room} (hf : R'.frames ≤ R.frames) (hl : R'.locals ≤ R.locals) (hc : cells + R'.cells ≤ R.cells) (hs : slots + R'.slots ≤ R.slots) :
    Stand p l e R' ((T.setVm s.vm).setFrames (.invoking m args :: below)) m args below meth c T [] 0 0 := by
  have htop : (T.setVm s.vm).topJava?.isSome := X.here.top
  have hF : ((T.setVm s.vm).setFrames (.invoking m args :: below)).frames = .invoking m args :: below := State.frames_setFrames _ (State.cur_lt_of_top htop)
  obtain ⟨g₀, hg0⟩ := Option.isSome_iff_exists.mp htop
  obtain ⟨r, hr⟩ := State.topJava?_eq_some.mp hg0
  have hl9 : e.platform.stackLimits (T.setVm s.vm).me = e.platform.stackLimits s.me := X.limits
  have hb9 : (T.setVm s.vm).me.stackBytes = s.me.stackBytes := X.bytes
  refine ⟨X.admits, X.cas, X.clock, hF, ?_, X.hears, X.method, X.code, X.here, X.tail, X.warmed, ?_, ?_, ?_⟩
  · have h := X.room
    have hU : ((T.setVm s.vm).setFrames (.invoking m args :: below)).localsInUse = s.localsInUse := by
      rw [State.localsInUse_invoking hF (meth := meth) (c := c) X.method X.code, State.localsInUse_invoking X.frames X.method X.code]
    simp only [State.hasRoom, Bool.and_eq_true, decide_eq_true_eq] at h ⊢
    obtain ⟨⟨⟨⟨h1, h2, h3, h4, h5, h6⟩, h7⟩, h8⟩, h9⟩ := h
    rw [X.frames, List.length_cons] at h2 h3
    have q1 := X.heapSize
    have q2 := X.used
    simp only [hF, hU, List.length_cons, State.stackLimits_setFrames, State.stackBytes_setFrames, hl9, hb9]
    refine ⟨⟨⟨⟨by omega, by omega, by omega, by omega, by omega, h6⟩, ?_⟩, ?_⟩, X.book⟩
    · show T.heap.size + R'.cells ≤ e.platform.maxCells
      omega
    · show T.slotsUsed + R'.slots ≤ e.platform.maxSlots
      omega
  · rw [State.stackLimits_setFrames]; rfl
  · rw [State.stackBytes_setFrames]; rfl
  · refine ⟨?_, Nat.le_refl _, Nat.le_refl _, ?_, ?_, fun a c9 h9 => ⟨c9, h9, rfl, rfl, fun _ _ => rfl⟩⟩
    · obtain ⟨t, ht, -⟩ := State.frames_cons hr
      show T.setVm s.vm = { ((T.setVm s.vm).setFrames (.invoking m args :: below)).setFrames (T.setVm s.vm).frames with heap := T.heap, slotsUsed := T.slotsUsed }
      rw [State.setFrames_setFrames, State.setFrames_self ht]
      rfl
    · show T.slotsUsed = T.slotsUsed + ((T.heap.toList.drop T.heap.size).map (·.slots.size)).sum
      rw [List.drop_eq_nil_of_le (Nat.le_of_eq Array.length_toList)]
      rfl
    · show ((T.heap.toList.drop T.heap.size).map (·.slots.size)).sum ≤ 0
      rw [List.drop_eq_nil_of_le (Nat.le_of_eq Array.length_toList)]
      exact Nat.le_refl _
/-- 'throw new E()': new; dup; invokespecial; athrow -/
theorem vx_throw0 {cc : ByteArray} {pc : Nat} (hexec : p.tables.exec = Jvm.exec) (hb : c.code = cc) (hl : l.stackTraces = false) {own cls : String} {names : List String} {ik ic mc ms : Nat} {A : Nat → Prop}
    (hown : s.vm.findClass own = some m.cls) (hcls : Bundle.fit cls = true) (hnames : ∀ n ∈ names, Bundle.fit n = true)
    (hk : (Cond.classLink own ik cls).before args s = true) (hini : (Cond.initialized cls).before args s = true) (hat : ∀ w ∈ vx_at0 own ic cls names, w.before args s = true)
    (hgood : ∀ w ∈ Cond.classLink own ik cls :: Cond.initialized cls :: vx_at0 own ic cls names, vx_ot w = true)
    (hU : vx_Zq Bundle.tN "UNASSIGNED_STACK" Bundle.steD A s s.heap) (hN : vx_Zq Bundle.tN "SUPPRESSED_SENTINEL" Bundle.listD A s s.heap) (hS : va_S A s.heap H locs) (hsize : ls.size = c.maxLocals)
    (d0 : decode cc pc = .ok (.new ik, 3)) (d3 : decode cc (pc + 3) = .ok (.dup, 1)) (d4 : decode cc (pc + 4) = .ok (.invokespecial ic, 3)) (d7 : decode cc (pc + 7) = .ok (.athrow, 1))
    (hout : ∀ x ∈ c.exceptionTable.toList, covers x (pc + 7) = false)
    (hRframes : names.length + 3 < R.frames) (hRlocals : (rest.map fun v => v.category).sum + (13 * (names.length + 1) + 42) ≤ R.locals) (hRcells : cells + 1 ≤ R.cells) (hRslots : slots + 6 ≤ R.slots) (hlocks : meth.locks = false)
    (hx : ∀ t : State, s.vm.Alike t.vm → H.size ≤ t.heap.size → (∀ q : Nat, q < H.size → t.heap[q]? = H[q]?) → XC cls s t)
    (hf : ∀ z ∈ locs, free z.base) (hc : cells + 1 ≤ mc) (hs : slots + 6 ≤ ms) :
    W p l e R s m args below meth c H locs cells slots (vx_MQ below Qc XC args s mc ms free) (F0 m pc ls rest) := by
  intro T hT X
  have htr : e.platform.stackTraces = false := (show e.platform.stackTraces = l.stackTraces by rw [X.admits.platform]).trans hl
  have Y := vx_rebase X (R' := { frames := R.frames, locals := R.locals, cells := 1, slots := 6 }) (Nat.le_refl _) (Nat.le_refl _) hRcells hRslots
  obtain ⟨s', hA⟩ : ∃ z, z = (T.setVm s.vm).setFrames (.invoking m args :: below) := ⟨_, rfl⟩
  rw [← hA] at Y
  have hvm : s'.vm = s.vm := by rw [hA]; rfl
  have hhp : s'.heap = H := by rw [hA]; exact hT
  have hW0 : s.WarmedH s'.vm := by rw [hvm]; exact State.WarmedH.refl s
  have hat' : ∀ w ∈ vx_at0 own ic cls names, w.before args s' = true := fun w hw => vx_ot_at hW0 hvm.symm (hgood w (List.mem_cons_of_mem _ (List.mem_cons_of_mem _ hw))) (hat w hw)
  have hk' : (Cond.classLink own ik cls).before args s' = true := vx_ot_at hW0 hvm.symm (hgood _ List.mem_cons_self) hk
  have hini' : (Cond.initialized cls).before args s' = true := vx_ot_at hW0 hvm.symm (hgood _ (List.mem_cons_of_mem _ List.mem_cons_self)) hini
  have hU' : vx_Zq Bundle.tN "UNASSIGNED_STACK" Bundle.steD A s' s'.heap := by rw [hhp]; exact vx_Zq.moved hW0.alike (hU.kept hS.2.1)
  have hN' : vx_Zq Bundle.tN "SUPPRESSED_SENTINEL" Bundle.listD A s' s'.heap := by rw [hhp]; exact vx_Zq.moved hW0.alike (hN.kept hS.2.1)
  have h : ∀ w ∈ Bundle.ownAtoms0 own ic cls names, w.before args s' = true := vx_own hat' (vx_isRefq hU'.1) (vx_isRefq hN'.1) hU'.2.word hN'.2.word
  have hown' : s'.vm.findClass own = some m.cls := by rw [hvm]; exact hown
  have hins : (Cond.instantiable cls 6).before args s' = true := h _ (by simp [Bundle.ownAtoms0])
  obtain ⟨vm₁, cX, kX, hfX, hkX, -, -, X₁, st1⟩ := Y.newCold hexec (own := own) (C := cls) (index := ik) (n := 6) hown' hk' hins hini'
    (g := F0 m pc ls rest) rfl (by rw [hb]; exact d0) (Nat.le_refl _) (Nat.le_refl _)
  generalize hT1 : (T.setVm vm₁).pushCell { cls := cX, slots := kX.instanceTypes.map defaultValue, vm := .none } = T1 at X₁ st1
  have hcat : (Value.ref T.heap.size).category = 1 := rfl
  have hcellA : T1.heap[T.heap.size]? = some (freshCell cX kX) := by rw [← hT1]; exact State.heap_pushCell_size _ _
  have d3' : decode c.code (pc + 3) = .ok (.dup, 1) := by rw [hb]; exact d3
  obtain ⟨U, hsteps, hrun, hend, hW, hsame, ce, hce, hO⟩ := X₁.ctorThrow0 hexec htr (own := own) (cls := cls) (names := names) (ic := ic) hown' hcls hnames h (fun x hx => nomatch hx) hfX hkX hcellA (by rw [hhp, hT]; exact Nat.le_refl _)
    (g := { method := m, pc := pc + 4, locals := ls, stack := .ref T.heap.size :: .ref T.heap.size :: rest, locked := none }) rfl hsize rfl rfl (rest := rest) rfl
    (by rw [hb]; exact d4) (by rw [hb]; exact d7) hout hRframes (by simp only [List.map_cons, List.sum_cons, hcat]; omega) hlocks
  obtain ⟨f1, f2⟩ := vx_frame hsame
  rw [hhp] at f1 f2
  have hWs : s.WarmedH U.vm := State.WarmedH.trans hW0 hW
  have hcl : s.vm.findClass cls = some ce.cls := by
    have h9 := hO.cls
    rw [hvm] at h9
    exact h9
  have hall : s.sameButNew ({ U with vm := s.vm } : State) locs mc ms := by
    subst hA
    obtain ⟨e1, e2⟩ := hsame
    rw [State.setFrames_setFrames] at e1
    have h2 : (T.setVm s.vm).sameButNew ({ U with vm := s.vm } : State) [] (0 + 1) (0 + 6) := ⟨e1, e2⟩
    have h3 := X.same.trans h2
    rw [List.append_nil] at h3
    exact h3.mono hc hs
  refine ⟨U, ?_, .threw T.heap.size, hrun, hend, Or.inr ⟨T.heap.size, rfl, cls, ce, locs, hx U hWs.alike f1 (fun q hq => f2 q hq (fun z hz => nomatch hz)), hce, hO.vm, hcl, hWs, hall, hf⟩⟩
  refine st1 _ ?_
  show Steps p.tables e below (T1.setTop { method := m, pc := pc + 3, locals := ls, stack := .ref T.heap.size :: rest, locked := none }) _
  jvm_step X₁.here [X₁.here.top, hexec, d3', Value.category]
  exact hsteps
/-- 'throw new E("text")': new; dup; ldc; invokespecial; athrow -/
theorem vx_throwS {cc : ByteArray} {pc : Nat} (hexec : p.tables.exec = Jvm.exec) (hb : c.code = cc) (hl : l.stackTraces = false) {own cls text : String} {names : List String} {ik is ic mc ms sa : Nat} {A : Nat → Prop}
    (hown : s.vm.findClass own = some m.cls) (hcls : Bundle.fit cls = true) (hnames : ∀ n ∈ names, Bundle.fit n = true)
    (hk : (Cond.classLink own ik cls).before args s = true) (hini : (Cond.initialized cls).before args s = true) (hstr : vk_R own is text sa s) (hat : ∀ w ∈ vx_atS own ic cls names, w.before args s = true)
    (hgood : ∀ w ∈ Cond.classLink own ik cls :: Cond.initialized cls :: vx_atS own ic cls names, vx_ot w = true)
    (hU : vx_Zq Bundle.tN "UNASSIGNED_STACK" Bundle.steD A s s.heap) (hN : vx_Zq Bundle.tN "SUPPRESSED_SENTINEL" Bundle.listD A s s.heap) (hS : va_S A s.heap H locs) (hsize : ls.size = c.maxLocals)
    (d0 : decode cc pc = .ok (.new ik, 3)) (d3 : decode cc (pc + 3) = .ok (.dup, 1)) (d4 : decode cc (pc + 4) = .ok (.ldc is, 2)) (d6 : decode cc (pc + 6) = .ok (.invokespecial ic, 3)) (d9 : decode cc (pc + 9) = .ok (.athrow, 1))
    (hout : ∀ x ∈ c.exceptionTable.toList, covers x (pc + 9) = false)
    (hRframes : names.length + 3 < R.frames) (hRlocals : (rest.map fun v => v.category).sum + (13 * (names.length + 1) + 43) ≤ R.locals) (hRcells : cells + 1 ≤ R.cells) (hRslots : slots + 6 ≤ R.slots) (hlocks : meth.locks = false)
    (hx : ∀ t : State, s.vm.Alike t.vm → H.size ≤ t.heap.size → (∀ q : Nat, q < H.size → t.heap[q]? = H[q]?) → XC cls s t)
    (hf : ∀ z ∈ locs, free z.base) (hc : cells + 1 ≤ mc) (hs : slots + 6 ≤ ms) :
    W p l e R s m args below meth c H locs cells slots (vx_MQ below Qc XC args s mc ms free) (F0 m pc ls rest) := by
  intro T hT X
  have htr : e.platform.stackTraces = false := (show e.platform.stackTraces = l.stackTraces by rw [X.admits.platform]).trans hl
  have Y := vx_rebase X (R' := { frames := R.frames, locals := R.locals, cells := 1, slots := 6 }) (Nat.le_refl _) (Nat.le_refl _) hRcells hRslots
  obtain ⟨s', hA⟩ : ∃ z, z = (T.setVm s.vm).setFrames (.invoking m args :: below) := ⟨_, rfl⟩
  rw [← hA] at Y
  have hvm : s'.vm = s.vm := by rw [hA]; rfl
  have hhp : s'.heap = H := by rw [hA]; exact hT
  have hW0 : s.WarmedH s'.vm := by rw [hvm]; exact State.WarmedH.refl s
  have hat' : ∀ w ∈ vx_atS own ic cls names, w.before args s' = true := fun w hw => vx_ot_at hW0 hvm.symm (hgood w (List.mem_cons_of_mem _ (List.mem_cons_of_mem _ hw))) (hat w hw)
  have hk' : (Cond.classLink own ik cls).before args s' = true := vx_ot_at hW0 hvm.symm (hgood _ List.mem_cons_self) hk
  have hini' : (Cond.initialized cls).before args s' = true := vx_ot_at hW0 hvm.symm (hgood _ (List.mem_cons_of_mem _ List.mem_cons_self)) hini
  have hU' : vx_Zq Bundle.tN "UNASSIGNED_STACK" Bundle.steD A s' s'.heap := by rw [hhp]; exact vx_Zq.moved hW0.alike (hU.kept hS.2.1)
  have hN' : vx_Zq Bundle.tN "SUPPRESSED_SENTINEL" Bundle.listD A s' s'.heap := by rw [hhp]; exact vx_Zq.moved hW0.alike (hN.kept hS.2.1)
  have h : ∀ w ∈ Bundle.ownAtoms own ic cls names, w.before args s' = true := vx_own hat' (vx_isRefq hU'.1) (vx_isRefq hN'.1) hU'.2.word hN'.2.word
  have hown' : s'.vm.findClass own = some m.cls := by rw [hvm]; exact hown
  have hins : (Cond.instantiable cls 6).before args s' = true := h _ (by simp [Bundle.ownAtoms])
  obtain ⟨vm₁, cX, kX, hfX, hkX, -, -, X₁, st1⟩ := Y.newCold hexec (own := own) (C := cls) (index := ik) (n := 6) hown' hk' hins hini'
    (g := F0 m pc ls rest) rfl (by rw [hb]; exact d0) (Nat.le_refl _) (Nat.le_refl _)
  generalize hT1 : (T.setVm vm₁).pushCell { cls := cX, slots := kX.instanceTypes.map defaultValue, vm := .none } = T1 at X₁ st1
  have hcat : (Value.ref T.heap.size).category = 1 := rfl
  have hcellA : T1.heap[T.heap.size]? = some (freshCell cX kX) := by rw [← hT1]; exact State.heap_pushCell_size _ _
  have d3' : decode c.code (pc + 3) = .ok (.dup, 1) := by rw [hb]; exact d3
  have d4' : decode c.code (pc + 4) = .ok (.ldc is, 2) := by rw [hb]; exact d4
  have hstr' : vk_R own is text sa s' := vk_R.warm hW0 hstr
  obtain ⟨U, hsteps, hrun, hend, hW, hsame, ce, hce, hO⟩ := X₁.ctorThrowS hexec htr (own := own) (cls := cls) (names := names) (ic := ic) hown' hcls hnames h (fun x hx => nomatch hx) hfX hkX hcellA (by rw [hhp, hT]; exact Nat.le_refl _) (msg := .ref sa) rfl
    (g := { method := m, pc := pc + 6, locals := ls, stack := .ref sa :: .ref T.heap.size :: .ref T.heap.size :: rest, locked := none }) rfl hsize rfl rfl (rest := rest) rfl
    (by rw [hb]; exact d6) (by rw [hb]; exact d9) hout hRframes (by simp only [List.map_cons, List.sum_cons, hcat]; omega) hlocks
  obtain ⟨f1, f2⟩ := vx_frame hsame
  rw [hhp] at f1 f2
  have hWs : s.WarmedH U.vm := State.WarmedH.trans hW0 hW
  have hcl : s.vm.findClass cls = some ce.cls := by
    have h9 := hO.cls
    rw [hvm] at h9
    exact h9
  have hall : s.sameButNew ({ U with vm := s.vm } : State) locs mc ms := by
    subst hA
    obtain ⟨e1, e2⟩ := hsame
    rw [State.setFrames_setFrames] at e1
    have h2 : (T.setVm s.vm).sameButNew ({ U with vm := s.vm } : State) [] (0 + 1) (0 + 6) := ⟨e1, e2⟩
    have h3 := X.same.trans h2
    rw [List.append_nil] at h3
    exact h3.mono hc hs
  refine ⟨U, ?_, .threw T.heap.size, hrun, hend, Or.inr ⟨T.heap.size, rfl, cls, ce, locs, hx U hWs.alike f1 (fun q hq => f2 q hq (fun z hz => nomatch hz)), hce, hO.vm, hcl, hWs, hall, hf⟩⟩
  refine st1 _ ?_
  show Steps p.tables e below (T1.setTop { method := m, pc := pc + 3, locals := ls, stack := .ref T.heap.size :: rest, locked := none }) _
  jvm_step X₁.here [X₁.here.top, hexec, d3', Value.category]
  exact X₁.ldcString hexec (own := own) (text := text) (index := is) (a := sa) hown' hstr'.1 hstr'.2
    (g := { method := m, pc := pc + 4, locals := ls, stack := .ref T.heap.size :: .ref T.heap.size :: rest, locked := none }) rfl d4' _ hsteps
/-- 'throw new E("text")', the text by a wide index -/
theorem vx_throwSW {cc : ByteArray} {pc : Nat} (hexec : p.tables.exec = Jvm.exec) (hb : c.code = cc) (hl : l.stackTraces = false) {own cls text : String} {names : List String} {ik is ic mc ms sa : Nat} {A : Nat → Prop}
    (hown : s.vm.findClass own = some m.cls) (hcls : Bundle.fit cls = true) (hnames : ∀ n ∈ names, Bundle.fit n = true)
    (hk : (Cond.classLink own ik cls).before args s = true) (hini : (Cond.initialized cls).before args s = true) (hstr : vk_R own is text sa s) (hat : ∀ w ∈ vx_atS own ic cls names, w.before args s = true)
    (hgood : ∀ w ∈ Cond.classLink own ik cls :: Cond.initialized cls :: vx_atS own ic cls names, vx_ot w = true)
    (hU : vx_Zq Bundle.tN "UNASSIGNED_STACK" Bundle.steD A s s.heap) (hN : vx_Zq Bundle.tN "SUPPRESSED_SENTINEL" Bundle.listD A s s.heap) (hS : va_S A s.heap H locs) (hsize : ls.size = c.maxLocals)
    (d0 : decode cc pc = .ok (.new ik, 3)) (d3 : decode cc (pc + 3) = .ok (.dup, 1)) (d4 : decode cc (pc + 4) = .ok (.ldc_w is, 3)) (d7 : decode cc (pc + 7) = .ok (.invokespecial ic, 3)) (d10 : decode cc (pc + 10) = .ok (.athrow, 1))
    (hout : ∀ x ∈ c.exceptionTable.toList, covers x (pc + 10) = false)
    (hRframes : names.length + 3 < R.frames) (hRlocals : (rest.map fun v => v.category).sum + (13 * (names.length + 1) + 43) ≤ R.locals) (hRcells : cells + 1 ≤ R.cells) (hRslots : slots + 6 ≤ R.slots) (hlocks : meth.locks = false)
    (hx : ∀ t : State, s.vm.Alike t.vm → H.size ≤ t.heap.size → (∀ q : Nat, q < H.size → t.heap[q]? = H[q]?) → XC cls s t)
    (hf : ∀ z ∈ locs, free z.base) (hc : cells + 1 ≤ mc) (hs : slots + 6 ≤ ms) :
    W p l e R s m args below meth c H locs cells slots (vx_MQ below Qc XC args s mc ms free) (F0 m pc ls rest) := by
  intro T hT X
  have htr : e.platform.stackTraces = false := (show e.platform.stackTraces = l.stackTraces by rw [X.admits.platform]).trans hl
  have Y := vx_rebase X (R' := { frames := R.frames, locals := R.locals, cells := 1, slots := 6 }) (Nat.le_refl _) (Nat.le_refl _) hRcells hRslots
  obtain ⟨s', hA⟩ : ∃ z, z = (T.setVm s.vm).setFrames (.invoking m args :: below) := ⟨_, rfl⟩
  rw [← hA] at Y
  have hvm : s'.vm = s.vm := by rw [hA]; rfl
  have hhp : s'.heap = H := by rw [hA]; exact hT
  have hW0 : s.WarmedH s'.vm := by rw [hvm]; exact State.WarmedH.refl s
  have hat' : ∀ w ∈ vx_atS own ic cls names, w.before args s' = true := fun w hw => vx_ot_at hW0 hvm.symm (hgood w (List.mem_cons_of_mem _ (List.mem_cons_of_mem _ hw))) (hat w hw)
  have hk' : (Cond.classLink own ik cls).before args s' = true := vx_ot_at hW0 hvm.symm (hgood _ List.mem_cons_self) hk
  have hini' : (Cond.initialized cls).before args s' = true := vx_ot_at hW0 hvm.symm (hgood _ (List.mem_cons_of_mem _ List.mem_cons_self)) hini
  have hU' : vx_Zq Bundle.tN "UNASSIGNED_STACK" Bundle.steD A s' s'.heap := by rw [hhp]; exact vx_Zq.moved hW0.alike (hU.kept hS.2.1)
  have hN' : vx_Zq Bundle.tN "SUPPRESSED_SENTINEL" Bundle.listD A s' s'.heap := by rw [hhp]; exact vx_Zq.moved hW0.alike (hN.kept hS.2.1)
  have h : ∀ w ∈ Bundle.ownAtoms own ic cls names, w.before args s' = true := vx_own hat' (vx_isRefq hU'.1) (vx_isRefq hN'.1) hU'.2.word hN'.2.word
  have hown' : s'.vm.findClass own = some m.cls := by rw [hvm]; exact hown
  have hins : (Cond.instantiable cls 6).before args s' = true := h _ (by simp [Bundle.ownAtoms])
  obtain ⟨vm₁, cX, kX, hfX, hkX, -, -, X₁, st1⟩ := Y.newCold hexec (own := own) (C := cls) (index := ik) (n := 6) hown' hk' hins hini'
    (g := F0 m pc ls rest) rfl (by rw [hb]; exact d0) (Nat.le_refl _) (Nat.le_refl _)
  generalize hT1 : (T.setVm vm₁).pushCell { cls := cX, slots := kX.instanceTypes.map defaultValue, vm := .none } = T1 at X₁ st1
  have hcat : (Value.ref T.heap.size).category = 1 := rfl
  have hcellA : T1.heap[T.heap.size]? = some (freshCell cX kX) := by rw [← hT1]; exact State.heap_pushCell_size _ _
  have d3' : decode c.code (pc + 3) = .ok (.dup, 1) := by rw [hb]; exact d3
  have d4' : decode c.code (pc + 4) = .ok (.ldc_w is, 3) := by rw [hb]; exact d4
  have hstr' : vk_R own is text sa s' := vk_R.warm hW0 hstr
  obtain ⟨U, hsteps, hrun, hend, hW, hsame, ce, hce, hO⟩ := X₁.ctorThrowS hexec htr (own := own) (cls := cls) (names := names) (ic := ic) hown' hcls hnames h (fun x hx => nomatch hx) hfX hkX hcellA (by rw [hhp, hT]; exact Nat.le_refl _) (msg := .ref sa) rfl
    (g := { method := m, pc := pc + 7, locals := ls, stack := .ref sa :: .ref T.heap.size :: .ref T.heap.size :: rest, locked := none }) rfl hsize rfl rfl (rest := rest) rfl
    (by rw [hb]; exact d7) (by rw [hb]; exact d10) hout hRframes (by simp only [List.map_cons, List.sum_cons, hcat]; omega) hlocks
  obtain ⟨f1, f2⟩ := vx_frame hsame
  rw [hhp] at f1 f2
  have hWs : s.WarmedH U.vm := State.WarmedH.trans hW0 hW
  have hcl : s.vm.findClass cls = some ce.cls := by
    have h9 := hO.cls
    rw [hvm] at h9
    exact h9
  have hall : s.sameButNew ({ U with vm := s.vm } : State) locs mc ms := by
    subst hA
    obtain ⟨e1, e2⟩ := hsame
    rw [State.setFrames_setFrames] at e1
    have h2 : (T.setVm s.vm).sameButNew ({ U with vm := s.vm } : State) [] (0 + 1) (0 + 6) := ⟨e1, e2⟩
    have h3 := X.same.trans h2
    rw [List.append_nil] at h3
    exact h3.mono hc hs
  refine ⟨U, ?_, .threw T.heap.size, hrun, hend, Or.inr ⟨T.heap.size, rfl, cls, ce, locs, hx U hWs.alike f1 (fun q hq => f2 q hq (fun z hz => nomatch hz)), hce, hO.vm, hcl, hWs, hall, hf⟩⟩
  refine st1 _ ?_
  show Steps p.tables e below (T1.setTop { method := m, pc := pc + 3, locals := ls, stack := .ref T.heap.size :: rest, locked := none }) _
  jvm_step X₁.here [X₁.here.top, hexec, d3', Value.category]
  exact X₁.ldcStringW hexec (own := own) (text := text) (index := is) (a := sa) hown' hstr'.1 hstr'.2
    (g := { method := m, pc := pc + 4, locals := ls, stack := .ref T.heap.size :: .ref T.heap.size :: rest, locked := none }) rfl d4' _ hsteps
end Ends
section Bodies
variable {l : Launch}
theorem vx_ofW {y : MethodName} {ws ws' : List Cond} {rm : Room} {Pc : Array Value → State → Prop} {Qc : Array Value → State → Outcome → State → Prop} {XC : String → State → State → Prop} {mc ms : Nat} {free : Addr → Prop} {cc : ByteArray} {maxL : Nat} {ret : Option FieldType}
    (hy : plainName y.cls = true) (hw : ws = Cond.code y cc maxL ret :: ws')
    (body : ∀ p e s m args below meth c s₁, BodyLoose p l y (headSpec ws rm) cc maxL ret e s m args below meth c s₁ → c.maxLocals = maxL → (∀ x ∈ c.exceptionTable.toList, False) → Pc args s →
      W p l e (headSpec ws rm).room s m args below meth c s.heap [] 0 0 (vx_MQ below Qc XC args s mc ms free) (entryFrame m args maxL)) : vx_Met l y ws rm Pc Qc XC mc ms free := by
  refine MetFree.of_bodyS (code := cc) (maxLocals := maxL) (ret := ret) hy ?_ ?_
  · intro args s m h hn
    obtain ⟨meth, c, h1, h2, h3, h4, h5, h6, -, -⟩ := Cond.code_spec hn (atoms_spec (ws := ws) h _ (by rw [hw]; exact List.mem_cons_self))
    exact ⟨meth, c, h1, h2, h3, h4, h5, h6⟩
  · intro p e s m args below meth c s₁ B hml hP _
    have hh0 : s₁.heap = s.heap := by rw [B.state]; rfl
    have ht : ∀ x ∈ c.exceptionTable.toList, False := by
      obtain ⟨meth9, c9, h1, h2, -, -, -, -, h7, -⟩ := Cond.code_spec B.named (atoms_spec (ws := ws) B.pre _ (by rw [hw]; exact List.mem_cons_self))
      cases Option.some.inj (h1.symm.trans B.method)
      cases Option.some.inj (h2.symm.trans (Stand.of_body B).code)
      intro x hx
      rw [Array.isEmpty_iff.mp h7] at hx
      cases hx
    obtain ⟨t, a1, o, b1, b2, b3⟩ := body p e s m args below meth c s₁ B hml ht hP s₁ hh0 (Stand.of_body B)
    exact ⟨t, o, a1, b1, b2, b3⟩
/-- the table of a body with handlers -/
theorem vx_table {p : Program} {x y : MethodName} {S : Spec} {cc bytes : ByteArray} {maxL maxL' : Nat} {ret ret' : Option FieldType} {e : Env} {s s₁ : State} {m : MethodId} {args : Array Value} {below : List Frame} {meth : Method} {c : Code} {hh : List (Nat × Nat × Nat × Nat)}
    (B : BodyLoose p l y S cc maxL ret e s m args below meth c s₁) (h : (Cond.codeWith y bytes maxL' ret' hh).before args s = true) : c.exceptionTable.toList = tableOf hh := by
  obtain ⟨m9, meth9, c9, hn9, h1, h2, -, -, h6, -⟩ := Cond.codeWith_spec h
  cases Option.some.inj (hn9.symm.trans B.named)
  cases Option.some.inj (h1.symm.trans B.method)
  cases Option.some.inj (h2.symm.trans (Stand.of_body B).code)
  rw [← h6, table_eq]
end Bodies
end VXA
/-! ===== END ===== -/
/-! ===== BEGIN a static call of a method with an exception table ===== -/
section VXS
variable {p : Program} {l : Launch} {e : Env} {R : Room} {s : State} {m : MethodId} {args : Array Value} {below : List Frame} {meth : Method} {c : Code} {T : State} {H : Heap} {locs : List Loc} {cells slots : Nat}
abbrev vx_CSW (R : Room) (s : State) (args : Array Value) (own : String) (index : Nat) (y : MethodName) (bytes : ByteArray) (maxL : Nat) (ret : Option FieldType) (hh : List (Nat × Nat × Nat × Nat)) (ws : List Cond) (rm : Room) (mc ms n : Nat) : Prop :=
  (rm.cells = mc ∧ rm.slots = ms ∧ rm.frames + 1 ≤ R.frames ∧ 8 + (maxL + 11) + rm.locals ≤ R.locals ∧ (∀ w ∈ ws, ∀ (a' : Array Value) (U : State), s.WarmedH U.vm → w.before a' U = true) ∧ Cond.codeWith y bytes maxL ret hh ∈ ws) ∧
  (Cond.codeWith y bytes maxL ret hh).before args s = true ∧ (Cond.initialized y.cls).before args s = true ∧ (y.cls ≠ "java/lang/invoke/MethodHandle" ∧ y.cls ≠ "java/lang/invoke/VarHandle") ∧
  (∀ sig, parseMethodDescriptor y.desc = some sig → n = sig.parameters.length) ∧ (Cond.methodLink own index y).before args s = true ∧ (Cond.static y).before args s = true
theorem vx_cwSW {own : String} {index maxL mc ms : Nat} {y : MethodName} {bytes : ByteArray} {ret : Option FieldType} {hh : List (Nat × Nat × Nat × Nat)} {Ts ws ws' : List Cond} {rm : Room} (n : Nat) (ht : ∀ w ∈ Ts, w.before args s = true) (hT : GoodIn Ts (va_wsS own index y ws)) (hw : ws = Cond.codeWith y bytes maxL ret hh :: ws') (hrc : rm.cells = mc) (hrs : rm.slots = ms)
    (hd : y.cls ≠ "java/lang/invoke/MethodHandle" ∧ y.cls ≠ "java/lang/invoke/VarHandle" ∧ (parseMethodDescriptor y.desc).map (fun d => d.parameters.length) = some n) (hR : rm.frames + 1 ≤ R.frames ∧ 8 + (maxL + 11) + rm.locals ≤ R.locals) :
    vx_CSW R s args own index y bytes maxL ret hh ws rm mc ms n := by
  have ok : ∀ w ∈ va_wsS own index y ws, w.before args s = true := fun w h => ht w (hT w h).1
  have hG : GoodIn Ts ws := fun w h => hT w (by unfold va_wsS; exact List.mem_append_right _ h)
  have hc : Cond.codeWith y bytes maxL ret hh ∈ ws := by rw [hw]; exact List.mem_cons_self
  refine ⟨⟨hrc, hrs, hR.1, hR.2, pay_in ht hG, hc⟩, ht _ (hG _ hc).1, ok _ (by simp [va_wsS]), ⟨hd.1, hd.2.1⟩, fun sig h => ?_, ok _ (by simp [va_wsS]), ok _ (by simp [va_wsS])⟩
  have h2 := hd.2.2
  rw [h] at h2
  exact (Option.some.inj h2).symm
theorem vx_callSW (X : Stand p l e R s m args below meth c T locs cells slots) (hexec : p.tables.exec = Jvm.exec) {own : String} {index : Nat} {y : MethodName} {bytes : ByteArray} {maxL : Nat} {ret : Option FieldType} {hh : List (Nat × Nat × Nat × Nat)}
    (hown : s.vm.findClass own = some m.cls) (hlink : (Cond.methodLink own index y).before args s = true) (hstat : (Cond.static y).before args s = true) (hinit : (Cond.initialized y.cls).before args s = true)
    (hcode : (Cond.codeWith y bytes maxL ret hh).before args s = true) (hy : y.cls ≠ "java/lang/invoke/MethodHandle" ∧ y.cls ≠ "java/lang/invoke/VarHandle")
    {W9 : Nat} {Pre : Pt → Array Value → Prop} {Post : Pt → Array Value → Option Value → Pt → Prop} (hK : Back l R p e below s args y 3 W9 Pre Post)
    {g : JFrame} (hg : g.method = m) (hsize : g.locals.size = c.maxLocals) {argsL rest : List Value} (hlen : ∀ sig, parseMethodDescriptor y.desc = some sig → argsL.length = sig.parameters.length)
    (hstack : g.stack = argsL.reverse ++ rest) (hW : 2 * g.monitorRoom + (rest.map fun v => v.category).sum ≤ W9) (hdg : decode c.code g.pc = .ok (.invokestatic index, 3))
    (hpre : ∀ vm₁, s.WarmedH vm₁ → Pre ⟨T.setVm vm₁, locs, cells, slots⟩ argsL.toArray) :
    ∃ (v : Option Value) (vm₁ : Vm) (B : Pt), s.WarmedH vm₁ ∧ Stand p l e R s m args below meth c B.U B.locs B.cells B.slots ∧ Post ⟨T.setVm vm₁, locs, cells, slots⟩ argsL.toArray v B ∧
      ∀ target, Steps p.tables e below (B.U.setTop { g with pc := g.pc + 3, stack := v.toList ++ rest }) target → Steps p.tables e below (T.setTop g) target := by
  obtain ⟨mk, methM, cM, hnamed, hmethM, -, -, -, -, -, -, hsigM⟩ := Cond.codeWith_spec hcode
  have hstatic : methM.isStatic = true := Cond.static_spec hnamed hmethM hstat
  obtain ⟨kP, hkP, -⟩ := className_of_methodNamed hnamed
  have hinitP : kP.init = .initialized := Cond.initialized_spec (findClass_of_methodNamed hnamed) hkP hinit
  obtain ⟨vm₁, X₁, hstep₁⟩ := X.invokestatic hexec hown hlink hnamed hmethM hstatic hkP hinitP hy (g := g) hg (argsL := argsL) (rest := rest) (hlen _ hsigM) hstack hdg
  obtain ⟨v, B, X', hpost, hsteps⟩ := hK m meth c ⟨T.setVm vm₁, locs, cells, slots⟩ { g with stack := rest } (.invokestatic index) mk argsL.toArray X₁ hg hsize hdg hW (X₁.named hnamed) (hpre vm₁ X₁.warmed)
  exact ⟨v, vm₁, B, X₁.warmed, X', hpost, fun target h => hstep₁ _ fun acts => by rw [doInvoke_state]; exact hsteps.trans h⟩
theorem vx_runSW {y : MethodName} {bytes cc : ByteArray} {maxL nL mc ms n index : Nat} {ret : Option FieldType} {hh : List (Nat × Nat × Nat × Nat)} {ws : List Cond} {rm : Room} {Pc : Array Value → State → Prop} {Qc : Array Value → State → Outcome → State → Prop} {free : Addr → Prop} {Ts : List Cond} {own : String} {As rest : List Value} {g : JFrame}
    (S : CallFix p m c cc nL s args Ts own) (hM : Met l y ws rm Pc Qc mc ms free) (cw : vx_CSW R s args own index y bytes maxL ret hh ws rm mc ms n) (hp : PreS s H Pc As)
    (hg : g.method = m) (hn : As.length = n) (hsize : g.locals.size = nL) (hstack : g.stack = As.reverse ++ rest) (hW : 2 * g.monitorRoom + (rest.map fun v => v.category).sum ≤ 8) (hdg : decode cc g.pc = .ok (.invokestatic index, 3)) (hf : cells + mc ≤ R.cells ∧ slots + ms ≤ R.slots) :
    va_Run p l e R s m args below meth c H locs cells slots mc ms g rest (Qc As.toArray) (free) := by
  obtain ⟨⟨hrc, hrs, hfr, hlo, hws, hcw⟩, hcode, hini, hy, hlen, hl, hstt⟩ := cw
  have hK : Back l R p e below s args y 3 8 (PreOf R mc ms Pc) (PostOf Qc mc ms free) := va_backW (hh := hh) (bytes := bytes) (maxL := maxL) (ret := ret) hM hp.1 hrc hrs hfr hlo hws hcw (fun a' U hW => word_at hW (Or.inl (by first | rfl | simp [Cond.onTables, Cond.keeps, Cond.steady])) hini)
  obtain ⟨hx, hb, hml, ho, -⟩ := S
  intro T hT X
  obtain ⟨v, vm₁, ⟨U', l2, c2, s2⟩, hW₁, X', ⟨g', mk, t, L, e1, e2, hq, h1, hL, h2, h3⟩, st⟩ := vx_callSW X hx (hh := hh) (bytes := bytes) (maxL := maxL) (ret := ret) ho hl hstt hini hcode hy hK hg (hsize.trans hml.symm) (argsL := As) (rest := rest) (fun sig h => hn.trans (hlen sig h)) hstack hW (by rw [hb]; exact hdg)
    (fun vm₁ hW₁ => ⟨hf.1, hf.2, hp.2 (T.setVm vm₁) hT hW₁⟩)
  dsimp only [Pt.U, Pt.locs, Pt.cells, Pt.slots] at X' e1 e2 h1 h2 h3 st
  subst h1; subst h2; subst h3
  exact ⟨v, (T.setVm vm₁).calling g' mk As.toArray, t, U', L, hT, X', hL, e1, e2, hq, st⟩
/-- not caught here, past rows that name other classes: it goes on to the caller -/
theorem vx_outP {p : Program} {l : Launch} {e : Env} {R : Room} {s : State} {m : MethodId} {args : Array Value} {below : List Frame} {meth : Method} {c : Code} {H : Heap} {locs : List Loc} {cells slots : Nat} {free : Addr → Prop} {ls : Array Slot} {rest : List Value} {Qc : Array Value → State → Outcome → State → Prop} {XC : String → State → State → Prop}
    {pc : Nat} {own E : String} {ce : Cell} {q : Addr} {mc ms : Nat} (hown : s.vm.findClass own = some m.cls) (hlocks : meth.locks = false)
    (hpass : ∀ z ∈ c.exceptionTable.toList, covers z pc = false ∨ (z.catchType ≠ 0 ∧ ∃ nm : String, (Cond.classLink own z.catchType nm).before args s = true ∧ va_Nc E nm s)) (hcell : H[q]? = some ce) (hv : ce.vm = .none) (hcl : s.vm.findClass E = some ce.cls)
    (hx : ∀ t : State, t.heap = H → s.vm.Alike t.vm → XC E s t) (hf : ∀ z ∈ locs, free z.base) (hc : cells ≤ mc) (hs : slots ≤ ms) :
    vx_W p l e R s m args below meth c H locs cells slots (vx_MQ below Qc XC args s mc ms free) (F0 m pc ls rest) q := by
  intro T hT X
  have hpl : e.platform.magicAccessors = ({} : Platform).magicAccessors := by rw [X.admits.platform]
  obtain ⟨vm', hW', X', st⟩ := X.outThrough hlocks q (g := F0 m pc ls rest) rfl rfl rfl (cell := ce) (by rw [hT]; exact hcell) (by rw [hv]; rfl)
    (by obtain ⟨k9, h9, -⟩ := Vm.findClass_spec hcl; exact ⟨k9, h9⟩) (fun z hz => by
      rcases hpass z hz with h | ⟨hz0, nm, hl1, hn1⟩
      · exact Or.inl h
      · obtain ⟨c6, hc6, hcl6⟩ := Cond.classLink_spec hown hl1 e.platform hpl
        obtain ⟨a8, b8, h1, h2, h3⟩ := hn1
        cases Option.some.inj (h1.symm.trans hcl)
        cases Option.some.inj (h2.symm.trans hc6)
        exact Or.inr ⟨hz0, _, hcl6, h3⟩)
  obtain ⟨g₀, hfr⟩ := X'.frames_eq
  have hcell9 : ((T.setVm vm').setFrames (.throwing q :: below)).heap[q]? = some ce := by
    show T.heap[q]? = some ce
    rw [hT]; exact hcell
  have hend : Ended ((T.setVm vm').setFrames (.throwing q :: below)) below (.threw q) := State.frames_setFrames _ (State.cur_lt_of_frames hfr)
  refine ⟨(T.setVm vm').setFrames (.throwing q :: below), ?_, .threw q, X'.here.running, hend, Or.inr ⟨q, rfl, E, ce, locs, hx _ hT (X'.ends _).1.alike, hcell9, hv, hcl, (X'.ends _).1, (X'.ends _).2.mono hc hs, hf⟩⟩
  rw [X.pushThrowing_eq]
  exact st
/-- a thing of a world lies in the heap -/
theorem vx_lt {D : va_G} {cl : List vw_C} {ws : va_W} {H1 : Heap} (h : va_P D cl ws H1) {k : Nat} {q : Nat × va_E} (hk : ws[k]? = some q) : q.1 < H1.size := (h k q hk).lt
end VXS
/-! ===== END ===== -/
/-! ===== BEGIN methods with a table of their own: called by a name, returning or throwing ===== -/
section VXH
/-! vx_backW, vx_callVX, vx_callSX, vx_callVW, vx_runVW, vx_runVX, vx_runSX, vx_ofWH follow the same proofs as their sisters above (Free/Laws.lean, Shelf42/LK1.lean); vx_outP calls Shelf42/NT130.lean (outThrough). -/
section
variable {l : Launch} {R : Room} {p : Program} {e : Env} {below : List Frame} {s : State} {sargs : Array Value} {y : MethodName} {len W9 : Nat}
theorem vx_backW {ws : List Cond} {rm : Room} {Pc : Array Value → State → Prop} {Qc : Array Value → State → Outcome → State → Prop} {XC : String → State → State → Prop} {mc ms : Nat} {free : Addr → Prop} {bytes : ByteArray} {maxL : Nat} {ret : Option FieldType} {hh : List (Nat × Nat × Nat × Nat)}
    (hM : vx_Met l y ws rm Pc Qc XC mc ms free) (hblind : FrameBlind Pc) (hrc : rm.cells = mc) (hrs : rm.slots = ms)
    (hframes : rm.frames + 1 ≤ R.frames) (hlocals : W9 + (maxL + 11) + rm.locals ≤ R.locals)
    (hws : ∀ w ∈ ws, ∀ a' U, s.WarmedH U.vm → w.before a' U = true) (hcode : Cond.codeWith y bytes maxL ret hh ∈ ws) (hinit : ∀ a' U, s.WarmedH U.vm → (Cond.initialized y.cls).before a' U = true) :
    vx_Back l R p e below s sargs y len W9 (PreOf R mc ms Pc) (PostOf Qc mc ms free) (vx_Post XC mc ms free) := by
  intro m meth c A g ig mk a X hg hsize hdg hW hn hp
  have h1 : (headSpec ws rm).pre.before a A.U = true := atoms_intro fun w hw => hws w hw _ _ X.warmed
  have h2 : (Cond.codeWith y bytes maxL ret hh).before a A.U = true := hws _ hcode _ _ X.warmed
  have h3 : (Cond.initialized y.cls).before a A.U = true := hinit _ _ X.warmed
  have h4 : A.cells + (headSpec ws rm).room.cells ≤ R.cells := by rw [show (headSpec ws rm).room.cells = mc from hrc]; exact hp.1
  have h5 : A.slots + (headSpec ws rm).room.slots ≤ R.slots := by rw [show (headSpec ws rm).room.slots = ms from hrs]; exact hp.2.1
  have hPc : Pc a (A.U.calling g mk a) := hblind _ _ _ _ hp.2.2
  obtain ⟨U, Ls, c0, s0⟩ := A
  dsimp only [Pt.U, Pt.locs, Pt.cells, Pt.slots] at h1 h2 h3 h4 h5 X hn hPc ⊢
  obtain ⟨m9, methY, cY, hn9, hmY, hcY, -, hlY, -⟩ := Cond.codeWith_spec h2
  cases Option.some.inj (hn9.symm.trans hn)
  obtain ⟨kY, hkY, -⟩ := className_of_methodNamed hn
  have hinitY : kY.init = .initialized := Cond.initialized_spec (findClass_of_methodNamed hn) hkY h3
  have h : At U g.method c below := by rw [hg]; exact X.here
  have hlocals9 : W9 + (maxL + 11) + (headSpec ws rm).room.locals ≤ R.locals := hlocals
  have happ : (headSpec ws rm).appliesLoose y e.platform (U.calling g mk a) = true :=
    Spec.appliesLoose_calling (g := g) h hdg hn hkY hinitY
      (X.room_calling (g := g) (R' := (headSpec ws rm).room) hsize hmY hcY hframes (by rw [hlY]; omega) h4 h5) h1
  obtain ⟨mid, hmid⟩ := h.above
  have hfr : (U.setTop g).frames = (.java g :: mid) ++ below := by rw [State.frames_setTop' g h.top, hmid]; rfl
  obtain ⟨o, s₂, hsteps, -, hend, hq⟩ := Steps.callFree hM p X.admits X.cas X.clock (acts := []) hfr happ hPc trivial
  have hq' : vx_Q Qc XC mc ms free a (U.calling g mk a) o s₂ := hq
  rw [State.frames_setTop' g h.top] at hend
  obtain ⟨g₀, hg0⟩ := Option.isSome_iff_exists.mp h.top
  obtain ⟨r, hr⟩ := State.topJava?_eq_some.mp hg0
  have hr' : (({ U with heap := s₂.heap, slotsUsed := s₂.slotsUsed } : State).setVm s₂.vm).frames = .java g₀ :: r := hr
  rcases hq' with ⟨hqc, L, hfe, hL⟩ | ⟨q, rfl, E, ce, L, hx, hce, hcv, hcl, hW₂, hsm, hL⟩
  · obtain ⟨⟨v, rfl⟩, hW₂, e2, q2, q3, q4, q5, q6⟩ := id hfe
    have e3 : s₂ = ({ (U.calling g mk a).setFrames s₂.frames with heap := s₂.heap, slotsUsed := s₂.slotsUsed } : State).setVm s₂.vm := by
      have : s₂ = ({ s₂ with vm := (U.calling g mk a).vm } : State).setVm s₂.vm := rfl
      rw [e2] at this
      exact this
    obtain ⟨c₂, i₂, len₂, hc₂, hd₂, hf₂⟩ := hend
    have hW' : U.WarmedH s₂.vm := hW₂
    have hcc : c₂ = c := by
      have h1 : s₂.code? g.method = U.code? g.method := by
        rw [State.code?_eq, State.code?_eq, hW'.alike.method?]
      exact Option.some.inj (hc₂.symm.trans (h1.trans h.code))
    subst hcc
    have hlen : len₂ = len := by rw [hdg] at hd₂; cases hd₂; rfl
    subst hlen
    have hs₂ : s₂ = (({ U with heap := s₂.heap, slotsUsed := s₂.slotsUsed } : State).setVm s₂.vm).setTop { g with pc := g.pc + len₂, stack := v.toList ++ g.stack } := by
      refine e3.trans ?_
      rw [hf₂, State.calling_eq h.top, State.setFrames_setFrames, State.setTop_of_frames _ hr', hr]
      rfl
    have hsame : U.sameButNew ({ U with heap := s₂.heap, slotsUsed := s₂.slotsUsed } : State) L mc ms := by
      refine ⟨?_, q2, q3, q4, q5, q6⟩
      obtain ⟨t, ht, -⟩ := State.frames_cons hr
      show ({ U with heap := s₂.heap, slotsUsed := s₂.slotsUsed } : State) = { U.setFrames U.frames with heap := s₂.heap, slotsUsed := s₂.slotsUsed }
      rw [State.setFrames_self ht]
    subst hg
    refine Or.inl ⟨v, ⟨(({ U with heap := s₂.heap, slotsUsed := s₂.slotsUsed } : State).setVm s₂.vm), Ls ++ L, c0 + mc, s0 + ms⟩,
      ⟨X.admits, X.cas, X.clock, X.frames, X.room, X.hears, X.method, X.code, (X.here.setHeapUsed s₂.heap s₂.slotsUsed).setVm hW'.alike, X.tail, State.WarmedH.trans X.warmed hW', X.limits, X.bytes, X.same.trans (hsame.setVm s.vm)⟩,
      ⟨g, mk, s₂, L, rfl, rfl, hqc, rfl, hL, rfl, rfl⟩, ?_⟩
    show Steps p.tables e below _ ((({ U with heap := s₂.heap, slotsUsed := s₂.slotsUsed } : State).setVm s₂.vm).setTop { g with pc := g.pc + len₂, stack := v.toList ++ g.stack })
    rw [← hs₂]
    exact hsteps
  · obtain ⟨e2, q2, q3, q4, q5, q6⟩ := id hsm
    have e3 : s₂ = ({ (U.calling g mk a).setFrames s₂.frames with heap := s₂.heap, slotsUsed := s₂.slotsUsed } : State).setVm s₂.vm := by
      have : s₂ = ({ s₂ with vm := (U.calling g mk a).vm } : State).setVm s₂.vm := rfl
      rw [e2] at this
      exact this
    have hf₂ : s₂.frames = .throwing q :: .java g :: U.frames.tail := hend
    have hW' : U.WarmedH s₂.vm := hW₂
    have hs₂ : s₂ = ((({ U with heap := s₂.heap, slotsUsed := s₂.slotsUsed } : State).setVm s₂.vm).setTop g).pushFrame (.throwing q) := by
      refine e3.trans ?_
      rw [hf₂, State.calling_eq h.top, State.setFrames_setFrames, State.pushFrame, State.frames_setTop _ hr', State.setTop_of_frames _ hr', State.setFrames_setFrames, hr]
      rfl
    have hsame : U.sameButNew ({ U with heap := s₂.heap, slotsUsed := s₂.slotsUsed } : State) L mc ms := by
      refine ⟨?_, q2, q3, q4, q5, q6⟩
      obtain ⟨t, ht, -⟩ := State.frames_cons hr
      show ({ U with heap := s₂.heap, slotsUsed := s₂.slotsUsed } : State) = { U.setFrames U.frames with heap := s₂.heap, slotsUsed := s₂.slotsUsed }
      rw [State.setFrames_self ht]
    subst hg
    refine Or.inr ⟨q, ⟨(({ U with heap := s₂.heap, slotsUsed := s₂.slotsUsed } : State).setVm s₂.vm), Ls ++ L, c0 + mc, s0 + ms⟩,
      ⟨X.admits, X.cas, X.clock, X.frames, X.room, X.hears, X.method, X.code, (X.here.setHeapUsed s₂.heap s₂.slotsUsed).setVm hW'.alike, X.tail, State.WarmedH.trans X.warmed hW', X.limits, X.bytes, X.same.trans (hsame.setVm s.vm)⟩,
      ⟨g, mk, s₂, L, E, ce, rfl, rfl, hx, hce, hcv, hcl, rfl, hL, rfl, rfl⟩, ?_⟩
    show Steps p.tables e below _ (((({ U with heap := s₂.heap, slotsUsed := s₂.slotsUsed } : State).setVm s₂.vm).setTop g).pushFrame (.throwing q))
    rw [← hs₂]
    exact hsteps
end
variable {p : Program} {l : Launch} {e : Env} {R : Room} {s : State} {m : MethodId} {args : Array Value} {below : List Frame} {meth : Method} {c : Code} {T : State} {H : Heap} {locs : List Loc} {cells slots : Nat}
theorem vx_callVX (X : Stand p l e R s m args below meth c T locs cells slots) (hexec : p.tables.exec = Jvm.exec) {own C : String} {index : Nat} {y : MethodName} {bytes : ByteArray} {maxL : Nat} {ret : Option FieldType} {hh : List (Nat × Nat × Nat × Nat)}
    (hown : s.vm.findClass own = some m.cls) (hlink : (Cond.methodLink own index y).before args s = true) (hinst : (Cond.instanceMethod y).before args s = true) (hsel : (Cond.selects C y y).before args s = true)
    (hcode : (Cond.codeWith y bytes maxL ret hh).before args s = true) (hy : y.cls ≠ "java/lang/invoke/MethodHandle" ∧ y.cls ≠ "java/lang/invoke/VarHandle")
    {W9 : Nat} {Pre : Pt → Array Value → Prop} {Post : Pt → Array Value → Option Value → Pt → Prop} {PostX : Pt → Array Value → Addr → Pt → Prop} (hK : vx_Back l R p e below s args y 3 W9 Pre Post PostX)
    {b : Addr} {cellB : Cell} (hcell : T.heap[b]? = some cellB) (hobj : cellB.vm.isStatics = false) (hcls : s.vm.findClass C = some cellB.cls)
    {g : JFrame} (hg : g.method = m) (hsize : g.locals.size = c.maxLocals) {argsL rest : List Value} (hlen : ∀ sig, parseMethodDescriptor y.desc = some sig → argsL.length = sig.parameters.length)
    (hstack : g.stack = argsL.reverse ++ .ref b :: rest) (hW : 2 * g.monitorRoom + (rest.map fun v => v.category).sum ≤ W9) (hdg : decode c.code g.pc = .ok (.invokevirtual index, 3))
    (hpre : ∀ vm₁, s.WarmedH vm₁ → Pre ⟨T.setVm vm₁, locs, cells, slots⟩ (Value.ref b :: argsL).toArray) :
    (∃ (v : Option Value) (vm₁ : Vm) (B : Pt), s.WarmedH vm₁ ∧ Stand p l e R s m args below meth c B.U B.locs B.cells B.slots ∧ Post ⟨T.setVm vm₁, locs, cells, slots⟩ (Value.ref b :: argsL).toArray v B ∧
      ∀ target, Steps p.tables e below (B.U.setTop { g with pc := g.pc + 3, stack := v.toList ++ rest }) target → Steps p.tables e below (T.setTop g) target) ∨
    (∃ (q : Addr) (vm₁ : Vm) (B : Pt), s.WarmedH vm₁ ∧ Stand p l e R s m args below meth c B.U B.locs B.cells B.slots ∧ PostX ⟨T.setVm vm₁, locs, cells, slots⟩ (Value.ref b :: argsL).toArray q B ∧
      Steps p.tables e below (T.setTop g) ((B.U.setTop { g with stack := rest }).pushFrame (.throwing q))) := by
  obtain ⟨mk, methM, hnamed, hmethM, hstM, habM⟩ := Cond.instanceMethod_spec hinst
  obtain ⟨m8, methM', cM, hn8, hmethM', -, -, -, -, -, -, hsigM⟩ := Cond.codeWith_spec hcode
  cases Option.some.inj (hn8.symm.trans hnamed)
  cases hmethM.symm.trans hmethM'
  obtain ⟨c2, r2, m2, q1, q2, q3, q4, kP, hkP, hkPi⟩ := Cond.selects_spec hsel
  cases hcls.symm.trans q1
  cases (State.methodFound?_of_named hnamed hy).symm.trans q2
  cases hnamed.symm.trans q3
  have hselP : selectMethod e.platform s.vm cellB.cls mk = .method mk := by rw [Launch.admits_selectMethod X.admits]; exact q4
  obtain ⟨vm₁, X₁, hstep₁⟩ := X.invokevirtual hexec hown hlink hnamed hmethM hstM hkP hkPi hy (a := b) (cell := cellB) hcell
    (fun z h => by rw [h] at hobj; cases hobj) hselP hmethM habM hkP hkPi (g := g) hg (argsL := argsL) (rest := rest) (hlen _ hsigM) hstack hdg
  rcases hK m meth c ⟨T.setVm vm₁, locs, cells, slots⟩ { g with stack := rest } (.invokevirtual index) mk (Value.ref b :: argsL).toArray X₁ hg hsize hdg hW (X₁.named hnamed) (hpre vm₁ X₁.warmed) with ⟨v, B, X', hpost, hsteps⟩ | ⟨q, B, X', hpost, hsteps⟩
  · exact Or.inl ⟨v, vm₁, B, X₁.warmed, X', hpost, fun target h => hstep₁ _ fun acts => by rw [doInvoke_state]; exact hsteps.trans h⟩
  · exact Or.inr ⟨q, vm₁, B, X₁.warmed, X', hpost, hstep₁ _ fun acts => by rw [doInvoke_state]; exact hsteps⟩
theorem vx_callSX (X : Stand p l e R s m args below meth c T locs cells slots) (hexec : p.tables.exec = Jvm.exec) {own : String} {index : Nat} {y : MethodName} {bytes : ByteArray} {maxL : Nat} {ret : Option FieldType} {hh : List (Nat × Nat × Nat × Nat)}
    (hown : s.vm.findClass own = some m.cls) (hlink : (Cond.methodLink own index y).before args s = true) (hstat : (Cond.static y).before args s = true) (hinit : (Cond.initialized y.cls).before args s = true)
    (hcode : (Cond.codeWith y bytes maxL ret hh).before args s = true) (hy : y.cls ≠ "java/lang/invoke/MethodHandle" ∧ y.cls ≠ "java/lang/invoke/VarHandle")
    {W9 : Nat} {Pre : Pt → Array Value → Prop} {Post : Pt → Array Value → Option Value → Pt → Prop} {PostX : Pt → Array Value → Addr → Pt → Prop} (hK : vx_Back l R p e below s args y 3 W9 Pre Post PostX)
    {g : JFrame} (hg : g.method = m) (hsize : g.locals.size = c.maxLocals) {argsL rest : List Value} (hlen : ∀ sig, parseMethodDescriptor y.desc = some sig → argsL.length = sig.parameters.length)
    (hstack : g.stack = argsL.reverse ++ rest) (hW : 2 * g.monitorRoom + (rest.map fun v => v.category).sum ≤ W9) (hdg : decode c.code g.pc = .ok (.invokestatic index, 3))
    (hpre : ∀ vm₁, s.WarmedH vm₁ → Pre ⟨T.setVm vm₁, locs, cells, slots⟩ argsL.toArray) :
    (∃ (v : Option Value) (vm₁ : Vm) (B : Pt), s.WarmedH vm₁ ∧ Stand p l e R s m args below meth c B.U B.locs B.cells B.slots ∧ Post ⟨T.setVm vm₁, locs, cells, slots⟩ argsL.toArray v B ∧
      ∀ target, Steps p.tables e below (B.U.setTop { g with pc := g.pc + 3, stack := v.toList ++ rest }) target → Steps p.tables e below (T.setTop g) target) ∨
    (∃ (q : Addr) (vm₁ : Vm) (B : Pt), s.WarmedH vm₁ ∧ Stand p l e R s m args below meth c B.U B.locs B.cells B.slots ∧ PostX ⟨T.setVm vm₁, locs, cells, slots⟩ argsL.toArray q B ∧
      Steps p.tables e below (T.setTop g) ((B.U.setTop { g with stack := rest }).pushFrame (.throwing q))) := by
  obtain ⟨mk, methM, cM, hnamed, hmethM, -, -, -, -, -, -, hsigM⟩ := Cond.codeWith_spec hcode
  have hstatic : methM.isStatic = true := Cond.static_spec hnamed hmethM hstat
  obtain ⟨kP, hkP, -⟩ := className_of_methodNamed hnamed
  have hinitP : kP.init = .initialized := Cond.initialized_spec (findClass_of_methodNamed hnamed) hkP hinit
  obtain ⟨vm₁, X₁, hstep₁⟩ := X.invokestatic hexec hown hlink hnamed hmethM hstatic hkP hinitP hy (g := g) hg (argsL := argsL) (rest := rest) (hlen _ hsigM) hstack hdg
  rcases hK m meth c ⟨T.setVm vm₁, locs, cells, slots⟩ { g with stack := rest } (.invokestatic index) mk argsL.toArray X₁ hg hsize hdg hW (X₁.named hnamed) (hpre vm₁ X₁.warmed) with ⟨v, B, X', hpost, hsteps⟩ | ⟨q, B, X', hpost, hsteps⟩
  · exact Or.inl ⟨v, vm₁, B, X₁.warmed, X', hpost, fun target h => hstep₁ _ fun acts => by rw [doInvoke_state]; exact hsteps.trans h⟩
  · exact Or.inr ⟨q, vm₁, B, X₁.warmed, X', hpost, hstep₁ _ fun acts => by rw [doInvoke_state]; exact hsteps⟩
theorem vx_callVW (X : Stand p l e R s m args below meth c T locs cells slots) (hexec : p.tables.exec = Jvm.exec) {own C : String} {index : Nat} {y : MethodName} {bytes : ByteArray} {maxL : Nat} {ret : Option FieldType} {hh : List (Nat × Nat × Nat × Nat)}
    (hown : s.vm.findClass own = some m.cls) (hlink : (Cond.methodLink own index y).before args s = true) (hinst : (Cond.instanceMethod y).before args s = true) (hsel : (Cond.selects C y y).before args s = true)
    (hcode : (Cond.codeWith y bytes maxL ret hh).before args s = true) (hy : y.cls ≠ "java/lang/invoke/MethodHandle" ∧ y.cls ≠ "java/lang/invoke/VarHandle")
    {W9 : Nat} {Pre : Pt → Array Value → Prop} {Post : Pt → Array Value → Option Value → Pt → Prop} (hK : Back l R p e below s args y 3 W9 Pre Post)
    {b : Addr} {cellB : Cell} (hcell : T.heap[b]? = some cellB) (hobj : cellB.vm.isStatics = false) (hcls : s.vm.findClass C = some cellB.cls)
    {g : JFrame} (hg : g.method = m) (hsize : g.locals.size = c.maxLocals) {argsL rest : List Value} (hlen : ∀ sig, parseMethodDescriptor y.desc = some sig → argsL.length = sig.parameters.length)
    (hstack : g.stack = argsL.reverse ++ .ref b :: rest) (hW : 2 * g.monitorRoom + (rest.map fun v => v.category).sum ≤ W9) (hdg : decode c.code g.pc = .ok (.invokevirtual index, 3))
    (hpre : ∀ vm₁, s.WarmedH vm₁ → Pre ⟨T.setVm vm₁, locs, cells, slots⟩ (Value.ref b :: argsL).toArray) :
    ∃ (v : Option Value) (vm₁ : Vm) (B : Pt), s.WarmedH vm₁ ∧ Stand p l e R s m args below meth c B.U B.locs B.cells B.slots ∧ Post ⟨T.setVm vm₁, locs, cells, slots⟩ (Value.ref b :: argsL).toArray v B ∧
      ∀ target, Steps p.tables e below (B.U.setTop { g with pc := g.pc + 3, stack := v.toList ++ rest }) target → Steps p.tables e below (T.setTop g) target := by
  obtain ⟨mk, methM, hnamed, hmethM, hstM, habM⟩ := Cond.instanceMethod_spec hinst
  obtain ⟨m8, methM', cM, hn8, hmethM', -, -, -, -, -, -, hsigM⟩ := Cond.codeWith_spec hcode
  cases Option.some.inj (hn8.symm.trans hnamed)
  cases hmethM.symm.trans hmethM'
  obtain ⟨c2, r2, m2, q1, q2, q3, q4, kP, hkP, hkPi⟩ := Cond.selects_spec hsel
  cases hcls.symm.trans q1
  cases (State.methodFound?_of_named hnamed hy).symm.trans q2
  cases hnamed.symm.trans q3
  have hselP : selectMethod e.platform s.vm cellB.cls mk = .method mk := by rw [Launch.admits_selectMethod X.admits]; exact q4
  obtain ⟨vm₁, X₁, hstep₁⟩ := X.invokevirtual hexec hown hlink hnamed hmethM hstM hkP hkPi hy (a := b) (cell := cellB) hcell
    (fun z h => by rw [h] at hobj; cases hobj) hselP hmethM habM hkP hkPi (g := g) hg (argsL := argsL) (rest := rest) (hlen _ hsigM) hstack hdg
  obtain ⟨v, B, X', hpost, hsteps⟩ := hK m meth c ⟨T.setVm vm₁, locs, cells, slots⟩ { g with stack := rest } (.invokevirtual index) mk (Value.ref b :: argsL).toArray X₁ hg hsize hdg hW (X₁.named hnamed) (hpre vm₁ X₁.warmed)
  exact ⟨v, vm₁, B, X₁.warmed, X', hpost, fun target h => hstep₁ _ fun acts => by rw [doInvoke_state]; exact hsteps.trans h⟩
abbrev vx_CVW (R : Room) (s : State) (args : Array Value) (own C : String) (index : Nat) (y : MethodName) (bytes : ByteArray) (maxL : Nat) (ret : Option FieldType) (hh : List (Nat × Nat × Nat × Nat)) (ws : List Cond) (rm : Room) (mc ms n : Nat) : Prop :=
  (rm.cells = mc ∧ rm.slots = ms ∧ rm.frames + 1 ≤ R.frames ∧ 8 + (maxL + 11) + rm.locals ≤ R.locals ∧ (∀ w ∈ ws, ∀ (a' : Array Value) (U : State), s.WarmedH U.vm → w.before a' U = true) ∧ Cond.codeWith y bytes maxL ret hh ∈ ws) ∧
  (Cond.codeWith y bytes maxL ret hh).before args s = true ∧ (Cond.initialized y.cls).before args s = true ∧ (y.cls ≠ "java/lang/invoke/MethodHandle" ∧ y.cls ≠ "java/lang/invoke/VarHandle") ∧
  (∀ sig, parseMethodDescriptor y.desc = some sig → n = sig.parameters.length) ∧ (Cond.methodLink own index y).before args s = true ∧ (Cond.instanceMethod y).before args s = true ∧ (Cond.selects C y y).before args s = true
theorem vx_cwVW {own C : String} {index maxL mc ms : Nat} {y : MethodName} {bytes : ByteArray} {ret : Option FieldType} {hh : List (Nat × Nat × Nat × Nat)} {Ts ws ws' : List Cond} {rm : Room} (n : Nat) (ht : ∀ w ∈ Ts, w.before args s = true) (hT : GoodIn Ts (wsV own index C y ws)) (hw : ws = Cond.codeWith y bytes maxL ret hh :: ws') (hrc : rm.cells = mc) (hrs : rm.slots = ms)
    (hd : y.cls = C ∧ y.cls ≠ "java/lang/invoke/MethodHandle" ∧ y.cls ≠ "java/lang/invoke/VarHandle" ∧ (parseMethodDescriptor y.desc).map (fun d => d.parameters.length) = some n) (hR : rm.frames + 1 ≤ R.frames ∧ 8 + (maxL + 11) + rm.locals ≤ R.locals) :
    vx_CVW R s args own C index y bytes maxL ret hh ws rm mc ms n := by
  obtain ⟨hC, hd⟩ := hd
  subst hC
  have ok : ∀ w ∈ wsV own index y.cls y ws, w.before args s = true := fun w h => ht w (hT w h).1
  have hG : GoodIn Ts ws := fun w h => hT w (by unfold wsV; exact List.mem_append_right _ h)
  have hc : Cond.codeWith y bytes maxL ret hh ∈ ws := by rw [hw]; exact List.mem_cons_self
  refine ⟨⟨hrc, hrs, hR.1, hR.2, pay_in ht hG, hc⟩, ht _ (hG _ hc).1, ok _ (by simp [wsV]), ⟨hd.1, hd.2.1⟩, fun sig h => ?_, ok _ (by simp [wsV]), ok _ (by simp [wsV]), ok _ (by simp [wsV])⟩
  have h2 := hd.2.2
  rw [h] at h2
  exact (Option.some.inj h2).symm
theorem vx_runVW {y : MethodName} {bytes cc : ByteArray} {maxL nL mc ms n index : Nat} {ret : Option FieldType} {hh : List (Nat × Nat × Nat × Nat)} {ws : List Cond} {rm : Room} {Pc : Array Value → State → Prop} {Qc : Array Value → State → Outcome → State → Prop} {free : Addr → Prop} {Ts : List Cond} {own C : String} {b : Addr} {As rest : List Value} {g : JFrame}
    (S : CallFix p m c cc nL s args Ts own) (hM : Met l y ws rm Pc Qc mc ms free) (cw : vx_CVW R s args own C index y bytes maxL ret hh ws rm mc ms n) (hp : PreV s H C b Pc As)
    (hg : g.method = m) (hn : As.length = n) (hsize : g.locals.size = nL) (hstack : g.stack = As.reverse ++ .ref b :: rest) (hW : 2 * g.monitorRoom + (rest.map fun v => v.category).sum ≤ 8) (hdg : decode cc g.pc = .ok (.invokevirtual index, 3)) (hf : cells + mc ≤ R.cells ∧ slots + ms ≤ R.slots) :
    va_Run p l e R s m args below meth c H locs cells slots mc ms g rest (Qc (Value.ref b :: As).toArray) free := by
  obtain ⟨⟨hrc, hrs, hfr, hlo, hws, hcw⟩, hcode, hini, hy, hlen, hl, hin, hse⟩ := cw
  have hK : Back l R p e below s args y 3 8 (PreOf R mc ms Pc) (PostOf Qc mc ms free) := va_backW (hh := hh) (bytes := bytes) (maxL := maxL) (ret := ret) hM hp.1 hrc hrs hfr hlo hws hcw (fun a' U hW => word_at hW (Or.inl (by first | rfl | simp [Cond.onTables, Cond.keeps, Cond.steady])) hini)
  obtain ⟨hx, hb, hml, ho, -⟩ := S
  obtain ⟨-, ⟨cellB, hcB, hoB, hclB⟩, hPc⟩ := hp
  intro T hT X
  obtain ⟨v, vm₁, ⟨U', l2, c2, s2⟩, hW₁, X', ⟨g', mk, t, L, e1, e2, hq, h1, hL, h2, h3⟩, st⟩ := vx_callVW X hx (C := C) (hh := hh) (bytes := bytes) (maxL := maxL) (ret := ret) ho hl hin hse hcode hy hK (by rw [hT]; exact hcB) hoB hclB hg (hsize.trans hml.symm) (argsL := As) (rest := rest) (fun sig h => hn.trans (hlen sig h)) hstack hW (by rw [hb]; exact hdg)
    (fun vm₁ hW₁ => ⟨hf.1, hf.2, hPc (T.setVm vm₁) hT hW₁⟩)
  dsimp only [Pt.U, Pt.locs, Pt.cells, Pt.slots] at X' e1 e2 h1 h2 h3 st
  subst h1; subst h2; subst h3
  exact ⟨v, (T.setVm vm₁).calling g' mk (Value.ref b :: As).toArray, t, U', L, hT, X', hL, e1, e2, hq, st⟩
section
variable {y : MethodName} {bytes cc : ByteArray} {maxL nL mc ms n index : Nat} {ret : Option FieldType} {ws : List Cond} {rm : Room} {Pc : Array Value → State → Prop} {Qc : Array Value → State → Outcome → State → Prop} {XC : String → State → State → Prop} {free : Addr → Prop} {Ts : List Cond} {own C : String} {b : Addr} {As rest : List Value} {g : JFrame}
theorem vx_runVX {hh : List (Nat × Nat × Nat × Nat)} (S : CallFix p m c cc nL s args Ts own) (hM : vx_Met l y ws rm Pc Qc XC mc ms free) (cw : vx_CVW R s args own C index y bytes maxL ret hh ws rm mc ms n) (hp : PreV s H C b Pc As)
    (hg : g.method = m) (hn : As.length = n) (hsize : g.locals.size = nL) (hstack : g.stack = As.reverse ++ .ref b :: rest) (hW : 2 * g.monitorRoom + (rest.map fun v => v.category).sum ≤ 8) (hdg : decode cc g.pc = .ok (.invokevirtual index, 3)) (hf : cells + mc ≤ R.cells ∧ slots + ms ≤ R.slots) :
    vx_Run p l e R s m args below meth c H locs cells slots mc ms g rest (Qc (Value.ref b :: As).toArray) XC free := by
  obtain ⟨⟨hrc, hrs, hfr, hlo, hws, hcw⟩, hcode, hini, hy, hlen, hl, hin, hse⟩ := cw
  have hK : vx_Back l R p e below s args y 3 8 (PreOf R mc ms Pc) (PostOf Qc mc ms free) (vx_Post XC mc ms free) := vx_backW (hh := hh) (bytes := bytes) (maxL := maxL) (ret := ret) hM hp.1 hrc hrs hfr hlo hws hcw (fun a' U hW => word_at hW (Or.inl (by first | rfl | simp [Cond.onTables, Cond.keeps, Cond.steady])) hini)
  obtain ⟨hx, hb, hml, ho, -⟩ := S
  obtain ⟨-, ⟨cellB, hcB, hoB, hclB⟩, hPc⟩ := hp
  intro T hT X
  rcases vx_callVX X hx (C := C) (hh := hh) (bytes := bytes) (maxL := maxL) (ret := ret) ho hl hin hse hcode hy hK (by rw [hT]; exact hcB) hoB hclB hg (hsize.trans hml.symm) (argsL := As) (rest := rest) (fun sig h => hn.trans (hlen sig h)) hstack hW (by rw [hb]; exact hdg)
    (fun vm₁ hW₁ => ⟨hf.1, hf.2, hPc (T.setVm vm₁) hT hW₁⟩) with ⟨v, vm₁, ⟨U', l2, c2, s2⟩, hW₁, X', ⟨g', mk, t, L, e1, e2, hq, h1, hL, h2, h3⟩, st⟩ | ⟨q, vm₁, ⟨U', l2, c2, s2⟩, hW₁, X', ⟨g', mk, t, L, E, ce, e1, e2, hq, hce, hcv, hcl, h1, hL, h2, h3⟩, st⟩
  · dsimp only [Pt.U, Pt.locs, Pt.cells, Pt.slots] at X' e1 e2 h1 h2 h3 st
    subst h1; subst h2; subst h3
    exact Or.inl ⟨v, (T.setVm vm₁).calling g' mk (Value.ref b :: As).toArray, t, U', L, hT, X', hL, e1, e2, hq, st⟩
  · dsimp only [Pt.U, Pt.locs, Pt.cells, Pt.slots] at X' e1 e2 h1 h2 h3 st hcl
    subst h1; subst h2; subst h3
    exact Or.inr ⟨q, (T.setVm vm₁).calling g' mk (Value.ref b :: As).toArray, t, U', L, E, ce, hT, X', hL, e1, e2, hq, hce, hcv, vx_cls hW₁ hcl, st⟩
theorem vx_runSX {hh : List (Nat × Nat × Nat × Nat)} (S : CallFix p m c cc nL s args Ts own) (hM : vx_Met l y ws rm Pc Qc XC mc ms free) (cw : vx_CSW R s args own index y bytes maxL ret hh ws rm mc ms n) (hp : PreS s H Pc As)
    (hg : g.method = m) (hn : As.length = n) (hsize : g.locals.size = nL) (hstack : g.stack = As.reverse ++ rest) (hW : 2 * g.monitorRoom + (rest.map fun v => v.category).sum ≤ 8) (hdg : decode cc g.pc = .ok (.invokestatic index, 3)) (hf : cells + mc ≤ R.cells ∧ slots + ms ≤ R.slots) :
    vx_Run p l e R s m args below meth c H locs cells slots mc ms g rest (Qc As.toArray) XC free := by
  obtain ⟨⟨hrc, hrs, hfr, hlo, hws, hcw⟩, hcode, hini, hy, hlen, hl, hstt⟩ := cw
  have hK : vx_Back l R p e below s args y 3 8 (PreOf R mc ms Pc) (PostOf Qc mc ms free) (vx_Post XC mc ms free) := vx_backW (hh := hh) (bytes := bytes) (maxL := maxL) (ret := ret) hM hp.1 hrc hrs hfr hlo hws hcw (fun a' U hW => word_at hW (Or.inl (by first | rfl | simp [Cond.onTables, Cond.keeps, Cond.steady])) hini)
  obtain ⟨hx, hb, hml, ho, -⟩ := S
  intro T hT X
  rcases vx_callSX X hx (hh := hh) (bytes := bytes) (maxL := maxL) (ret := ret) ho hl hstt hini hcode hy hK hg (hsize.trans hml.symm) (argsL := As) (rest := rest) (fun sig h => hn.trans (hlen sig h)) hstack hW (by rw [hb]; exact hdg)
    (fun vm₁ hW₁ => ⟨hf.1, hf.2, hp.2 (T.setVm vm₁) hT hW₁⟩) with ⟨v, vm₁, ⟨U', l2, c2, s2⟩, hW₁, X', ⟨g', mk, t, L, e1, e2, hq, h1, hL, h2, h3⟩, st⟩ | ⟨q, vm₁, ⟨U', l2, c2, s2⟩, hW₁, X', ⟨g', mk, t, L, E, ce, e1, e2, hq, hce, hcv, hcl, h1, hL, h2, h3⟩, st⟩
  · dsimp only [Pt.U, Pt.locs, Pt.cells, Pt.slots] at X' e1 e2 h1 h2 h3 st
    subst h1; subst h2; subst h3
    exact Or.inl ⟨v, (T.setVm vm₁).calling g' mk As.toArray, t, U', L, hT, X', hL, e1, e2, hq, st⟩
  · dsimp only [Pt.U, Pt.locs, Pt.cells, Pt.slots] at X' e1 e2 h1 h2 h3 st hcl
    subst h1; subst h2; subst h3
    exact Or.inr ⟨q, (T.setVm vm₁).calling g' mk As.toArray, t, U', L, E, ce, hT, X', hL, e1, e2, hq, hce, hcv, vx_cls hW₁ hcl, st⟩
end
end VXH
theorem vx_ofWH {l : Launch} {y : MethodName} {ws ws' : List Cond} {rm : Room} {Pc : Array Value → State → Prop} {Qc : Array Value → State → Outcome → State → Prop} {XC : String → State → State → Prop} {mc ms : Nat} {free : Addr → Prop} {cc : ByteArray} {maxL : Nat} {ret : Option FieldType} {hh : List (Nat × Nat × Nat × Nat)}
    (hy : plainName y.cls = true) (hw : ws = Cond.codeWith y cc maxL ret hh :: ws')
    (body : ∀ p e s m args below meth c s₁, BodyLoose p l y (headSpec ws rm) cc maxL ret e s m args below meth c s₁ → c.maxLocals = maxL → Pc args s →
      W p l e (headSpec ws rm).room s m args below meth c s.heap [] 0 0 (vx_MQ below Qc XC args s mc ms free) (entryFrame m args maxL)) : vx_Met l y ws rm Pc Qc XC mc ms free := by
  refine MetFree.of_bodyS (code := cc) (maxLocals := maxL) (ret := ret) hy ?_ ?_
  · intro args s m h hn
    obtain ⟨m9, meth, c, hn9, h1, h2, h3, h4, -, h5, h6, -⟩ := Cond.codeWith_spec (atoms_spec (ws := ws) h _ (by rw [hw]; exact List.mem_cons_self))
    cases hn.symm.trans hn9
    exact ⟨meth, c, h1, h2, h3, h4, h5, h6⟩
  · intro p e s m args below meth c s₁ B hml hP _
    have hh0 : s₁.heap = s.heap := by rw [B.state]; rfl
    obtain ⟨t, a1, o, b1, b2, b3⟩ := body p e s m args below meth c s₁ B hml hP s₁ hh0 (Stand.of_body B)
    exact ⟨t, o, a1, b1, b2, b3⟩
/-! ===== END ===== -/
end
section
def RX0 : String := "Belowhouse$Chains"
def TX0 : u_T := fun k => match k with
  | 0 => ("Belowhouse$Chains", "ahead", "[I", true)
  | _ => ("Belowhouse$Chains", "searched", "[I", true)
def tyX0 : Nat → FieldType := fun k => match k with
  | 0 => .array .int
  | _ => .array .int
theorem nmX0 : ∀ a, a < 2 → ∀ b, b < 2 → a ≠ b → (TX0 a).2.1 ≠ (TX0 b).2.1 := by decide +kernel
theorem tyX0_ok : ∀ k, k < 2 → parseFieldDescriptor (TX0 k).2.2.1 = some (tyX0 k) := by decide +kernel
abbrev cX0_init : ByteArray := prog_2_method_1_code
def yX0_init : MethodName := ⟨RX0, "<init>", "()V"⟩
abbrev cX0_longestWithin : ByteArray := prog_2_method_2_code
def yX0_longestWithin : MethodName := ⟨RX0, "longestWithin", "(LBelowhouse$Order;I)I"⟩
abbrev cX0_mostApart : ByteArray := prog_2_method_3_code
def yX0_mostApart : MethodName := ⟨RX0, "mostApart", "(LBelowhouse$Order;)I"⟩
abbrev cX0_apartCount : ByteArray := prog_2_method_4_code
def yX0_apartCount : MethodName := ⟨RX0, "apartCount", "(LBelowhouse$Order;)I"⟩
abbrev cX0_layerCount : ByteArray := prog_2_method_5_code
def yX0_layerCount : MethodName := ⟨RX0, "layerCount", "(LBelowhouse$Order;)I"⟩
abbrev cX0_chainCover : ByteArray := prog_2_method_6_code
def yX0_chainCover : MethodName := ⟨RX0, "chainCover", "(LBelowhouse$Order;)I"⟩
abbrev cX0_findsFollower : ByteArray := prog_2_method_7_code
def yX0_findsFollower : MethodName := ⟨RX0, "findsFollower", "(LBelowhouse$Order;[I[IIII)Z"⟩
def RX1 : String := "Belowhouse$ClosedSets"
def TX1 : u_T := fun k => match k with
  | _ => ("", "", "", false)
def tyX1 : Nat → FieldType := fun k => match k with
  | _ => .int
theorem nmX1 : ∀ a, a < 0 → ∀ b, b < 0 → a ≠ b → (TX1 a).2.1 ≠ (TX1 b).2.1 := by decide +kernel
theorem tyX1_ok : ∀ k, k < 0 → parseFieldDescriptor (TX1 k).2.2.1 = some (tyX1 k) := by decide +kernel
abbrev cX1_isAhead : ByteArray := prog_3_method_2_code
def yX1_isAhead : MethodName := ⟨RX1, "isAhead", "(II)Z"⟩
abbrev cX1_count : ByteArray := prog_3_method_3_code
def yX1_count : MethodName := ⟨RX1, "count", "(LBelowhouse$Order;)I"⟩
abbrev cX1_countOfSize : ByteArray := prog_3_method_4_code
def yX1_countOfSize : MethodName := ⟨RX1, "countOfSize", "(LBelowhouse$Order;I)I"⟩
abbrev cX1_countAhead : ByteArray := prog_3_method_5_code
def yX1_countAhead : MethodName := ⟨RX1, "countAhead", "(LBelowhouse$Order;I)I"⟩
abbrev cX1_countShared : ByteArray := prog_3_method_6_code
def yX1_countShared : MethodName := ⟨RX1, "countShared", "(LBelowhouse$Order;LBelowhouse$Order;)I"⟩
abbrev cX1_findAt : ByteArray := prog_3_method_7_code
def yX1_findAt : MethodName := ⟨RX1, "findAt", "(LBelowhouse$Order;I)I"⟩
abbrev cX1_lastAhead : ByteArray := prog_3_method_8_code
def yX1_lastAhead : MethodName := ⟨RX1, "lastAhead", "(LBelowhouse$Order;I)I"⟩
abbrev cX1_firstBehind : ByteArray := prog_3_method_9_code
def yX1_firstBehind : MethodName := ⟨RX1, "firstBehind", "(LBelowhouse$Order;I)I"⟩
def RX2 : String := "Belowhouse$Numbers"
def TX2 : u_T := fun k => match k with
  | _ => ("Belowhouse$Numbers", "ofHigh", "[I", true)
def tyX2 : Nat → FieldType := fun k => match k with
  | _ => .array .int
theorem nmX2 : ∀ a, a < 1 → ∀ b, b < 1 → a ≠ b → (TX2 a).2.1 ≠ (TX2 b).2.1 := by decide +kernel
theorem tyX2_ok : ∀ k, k < 1 → parseFieldDescriptor (TX2 k).2.2.1 = some (tyX2 k) := by decide +kernel
abbrev cX2_init : ByteArray := prog_4_method_1_code
def yX2_init : MethodName := ⟨RX2, "<init>", "()V"⟩
abbrev cX2_between : ByteArray := prog_4_method_2_code
def yX2_between : MethodName := ⟨RX2, "between", "(LBelowhouse$Order;II)I"⟩
abbrev cX2_undoSums : ByteArray := prog_4_method_3_code
def yX2_undoSums : MethodName := ⟨RX2, "undoSums", "(LBelowhouse$Order;I)I"⟩
abbrev cX2_fillFrom : ByteArray := prog_4_method_4_code
def yX2_fillFrom : MethodName := ⟨RX2, "fillFrom", "(LBelowhouse$Order;I)V"⟩
abbrev cX2_sumBelow : ByteArray := prog_4_method_5_code
def yX2_sumBelow : MethodName := ⟨RX2, "sumBelow", "(LBelowhouse$Order;I)I"⟩
abbrev cX2_vanishFrom : ByteArray := prog_4_method_6_code
def yX2_vanishFrom : MethodName := ⟨RX2, "vanishFrom", "(LBelowhouse$Order;I)Z"⟩
def RX3 : String := "Belowhouse$Order"
def TX3 : u_T := fun k => match k with
  | 0 => ("Belowhouse$Order", "count", "I", false)
  | 1 => ("Belowhouse$Order", "below", "[I", true)
  | _ => ("Belowhouse$Order", "values", "[I", true)
def tyX3 : Nat → FieldType := fun k => match k with
  | 0 => .int
  | 1 => .array .int
  | _ => .array .int
theorem nmX3 : ∀ a, a < 3 → ∀ b, b < 3 → a ≠ b → (TX3 a).2.1 ≠ (TX3 b).2.1 := by decide +kernel
theorem tyX3_ok : ∀ k, k < 3 → parseFieldDescriptor (TX3 k).2.2.1 = some (tyX3 k) := by decide +kernel
abbrev cX3_init : ByteArray := prog_5_method_1_code
def yX3_init : MethodName := ⟨RX3, "<init>", "()V"⟩
abbrev cX3_all : ByteArray := prog_5_method_2_code
def yX3_all : MethodName := ⟨RX3, "all", "()I"⟩
abbrev cX3_setLimit : ByteArray := prog_5_method_3_code
def yX3_setLimit : MethodName := ⟨RX3, "setLimit", "()I"⟩
abbrev cX3_hasThing : ByteArray := prog_5_method_4_code
def yX3_hasThing : MethodName := ⟨RX3, "hasThing", "(I)Z"⟩
abbrev cX3_clearTo : ByteArray := prog_5_method_5_code
def yX3_clearTo : MethodName := ⟨RX3, "clearTo", "(I)V"⟩
abbrev cX3_lineUp : ByteArray := prog_5_method_6_code
def yX3_lineUp : MethodName := ⟨RX3, "lineUp", "()V"⟩
abbrev cX3_standAs : ByteArray := prog_5_method_7_code
def yX3_standAs : MethodName := ⟨RX3, "standAs", "([I)V"⟩
abbrev cX3_append : ByteArray := prog_5_method_8_code
def yX3_append : MethodName := ⟨RX3, "append", "(I)I"⟩
abbrev cX3_retain : ByteArray := prog_5_method_9_code
def yX3_retain : MethodName := ⟨RX3, "retain", "(I)V"⟩
abbrev cX3_squeezed : ByteArray := prog_5_method_10_code
def yX3_squeezed : MethodName := ⟨RX3, "squeezed", "(II)I"⟩
abbrev cX3_link : ByteArray := prog_5_method_11_code
def yX3_link : MethodName := ⟨RX3, "link", "(II)I"⟩
abbrev cX3_cut : ByteArray := prog_5_method_12_code
def yX3_cut : MethodName := ⟨RX3, "cut", "(II)V"⟩
abbrev cX3_become : ByteArray := prog_5_method_13_code
def yX3_become : MethodName := ⟨RX3, "become", "(LBelowhouse$Order;)V"⟩
abbrev cX3_becomeTurned : ByteArray := prog_5_method_14_code
def yX3_becomeTurned : MethodName := ⟨RX3, "becomeTurned", "(LBelowhouse$Order;)V"⟩
abbrev cX3_becomeJoined : ByteArray := prog_5_method_15_code
def yX3_becomeJoined : MethodName := ⟨RX3, "becomeJoined", "(LBelowhouse$Order;LBelowhouse$Order;Z)V"⟩
abbrev cX3_becomeCommon : ByteArray := prog_5_method_16_code
def yX3_becomeCommon : MethodName := ⟨RX3, "becomeCommon", "(LBelowhouse$Order;LBelowhouse$Order;)V"⟩
abbrev cX3_isBelow : ByteArray := prog_5_method_17_code
def yX3_isBelow : MethodName := ⟨RX3, "isBelow", "(II)Z"⟩
abbrev cX3_isNextBelow : ByteArray := prog_5_method_18_code
def yX3_isNextBelow : MethodName := ⟨RX3, "isNextBelow", "(II)Z"⟩
abbrev cX3_aboveOf : ByteArray := prog_5_method_19_code
def yX3_aboveOf : MethodName := ⟨RX3, "aboveOf", "(I)I"⟩
abbrev cX3_pairCount : ByteArray := prog_5_method_20_code
def yX3_pairCount : MethodName := ⟨RX3, "pairCount", "()I"⟩
abbrev cX3_nextCount : ByteArray := prog_5_method_21_code
def yX3_nextCount : MethodName := ⟨RX3, "nextCount", "()I"⟩
abbrev cX3_hasPairsOf : ByteArray := prog_5_method_22_code
def yX3_hasPairsOf : MethodName := ⟨RX3, "hasPairsOf", "(LBelowhouse$Order;)Z"⟩
abbrev cX3_isInLine : ByteArray := prog_5_method_23_code
def yX3_isInLine : MethodName := ⟨RX3, "isInLine", "(I)Z"⟩
abbrev cX3_isUnordered : ByteArray := prog_5_method_24_code
def yX3_isUnordered : MethodName := ⟨RX3, "isUnordered", "(I)Z"⟩
abbrev cX3_allBelow : ByteArray := prog_5_method_25_code
def yX3_allBelow : MethodName := ⟨RX3, "allBelow", "(I)I"⟩
abbrev cX3_greatestOf : ByteArray := prog_5_method_26_code
def yX3_greatestOf : MethodName := ⟨RX3, "greatestOf", "(I)I"⟩
abbrev cX3_leastOf : ByteArray := prog_5_method_27_code
def yX3_leastOf : MethodName := ⟨RX3, "leastOf", "(I)I"⟩
abbrev cX3_isClosedBelow : ByteArray := prog_5_method_28_code
def yX3_isClosedBelow : MethodName := ⟨RX3, "isClosedBelow", "(I)Z"⟩
abbrev cX3_filledUp : ByteArray := prog_5_method_29_code
def yX3_filledUp : MethodName := ⟨RX3, "filledUp", "(I)I"⟩
abbrev cX3_pared : ByteArray := prog_5_method_30_code
def yX3_pared : MethodName := ⟨RX3, "pared", "(I)I"⟩
abbrev cX3_canCome : ByteArray := prog_5_method_31_code
def yX3_canCome : MethodName := ⟨RX3, "canCome", "(II)Z"⟩
abbrev cX3_sumUpTo : ByteArray := prog_5_method_32_code
def yX3_sumUpTo : MethodName := ⟨RX3, "sumUpTo", "(I)I"⟩
def RX4 : String := "Belowhouse$RowTable"
def TX4 : u_T := fun k => match k with
  | 0 => ("Belowhouse$RowTable", "waysTo", "[I", true)
  | 1 => ("Belowhouse$RowTable", "waysOn", "[I", true)
  | _ => ("Belowhouse$RowTable", "line", "[I", true)
def tyX4 : Nat → FieldType := fun k => match k with
  | 0 => .array .int
  | 1 => .array .int
  | _ => .array .int
theorem nmX4 : ∀ a, a < 3 → ∀ b, b < 3 → a ≠ b → (TX4 a).2.1 ≠ (TX4 b).2.1 := by decide +kernel
theorem tyX4_ok : ∀ k, k < 3 → parseFieldDescriptor (TX4 k).2.2.1 = some (tyX4 k) := by decide +kernel
abbrev cX4_init : ByteArray := prog_6_method_1_code
def yX4_init : MethodName := ⟨RX4, "<init>", "()V"⟩
abbrev cX4_count : ByteArray := prog_6_method_2_code
def yX4_count : MethodName := ⟨RX4, "count", "(LBelowhouse$Order;)I"⟩
abbrev cX4_passOn : ByteArray := prog_6_method_3_code
def yX4_passOn : MethodName := ⟨RX4, "passOn", "(LBelowhouse$Order;I)V"⟩
abbrev cX4_fill : ByteArray := prog_6_method_4_code
def yX4_fill : MethodName := ⟨RX4, "fill", "(LBelowhouse$Order;)I"⟩
abbrev cX4_isReached : ByteArray := prog_6_method_5_code
def yX4_isReached : MethodName := ⟨RX4, "isReached", "(I)Z"⟩
abbrev cX4_waysByLesser : ByteArray := prog_6_method_6_code
def yX4_waysByLesser : MethodName := ⟨RX4, "waysByLesser", "(LBelowhouse$Order;II)I"⟩
abbrev cX4_layOut : ByteArray := prog_6_method_7_code
def yX4_layOut : MethodName := ⟨RX4, "layOut", "(LBelowhouse$Order;I)V"⟩
abbrev cX4_thingFor : ByteArray := prog_6_method_8_code
def yX4_thingFor : MethodName := ⟨RX4, "thingFor", "(LBelowhouse$Order;II)I"⟩
abbrev cX4_lineAsNumber : ByteArray := prog_6_method_9_code
def yX4_lineAsNumber : MethodName := ⟨RX4, "lineAsNumber", "(LBelowhouse$Order;)I"⟩
abbrev cX4_findPlace : ByteArray := prog_6_method_10_code
def yX4_findPlace : MethodName := ⟨RX4, "findPlace", "(LBelowhouse$Order;I)I"⟩
abbrev cX4_withoutLast : ByteArray := prog_6_method_11_code
def yX4_withoutLast : MethodName := ⟨RX4, "withoutLast", "(II)I"⟩
abbrev cX4_waysThrough : ByteArray := prog_6_method_12_code
def yX4_waysThrough : MethodName := ⟨RX4, "waysThrough", "(LBelowhouse$Order;II)I"⟩
abbrev cX4_countAhead : ByteArray := prog_6_method_13_code
def yX4_countAhead : MethodName := ⟨RX4, "countAhead", "(LBelowhouse$Order;II)I"⟩
abbrev cX4_countAtPlace : ByteArray := prog_6_method_14_code
def yX4_countAtPlace : MethodName := ⟨RX4, "countAtPlace", "(LBelowhouse$Order;II)I"⟩
abbrev cX4_sumOfPlaces : ByteArray := prog_6_method_15_code
def yX4_sumOfPlaces : MethodName := ⟨RX4, "sumOfPlaces", "(LBelowhouse$Order;I)I"⟩
def RX5 : String := "Belowhouse$Theorem"
def TX5 : u_T := fun k => match k with
  | 0 => ("Belowhouse$Theorem", "tried", "LBelowhouse$Order;", true)
  | 1 => ("Belowhouse$Theorem", "turned", "LBelowhouse$Order;", true)
  | 2 => ("Belowhouse$Theorem", "table", "LBelowhouse$RowTable;", true)
  | 3 => ("Belowhouse$Theorem", "triedTable", "LBelowhouse$RowTable;", true)
  | 4 => ("Belowhouse$Theorem", "chains", "LBelowhouse$Chains;", true)
  | 5 => ("Belowhouse$Theorem", "numbers", "LBelowhouse$Numbers;", true)
  | _ => ("Belowhouse$Theorem", "sizes", "[I", true)
def tyX5 : Nat → FieldType := fun k => match k with
  | 0 => .object "Belowhouse$Order"
  | 1 => .object "Belowhouse$Order"
  | 2 => .object "Belowhouse$RowTable"
  | 3 => .object "Belowhouse$RowTable"
  | 4 => .object "Belowhouse$Chains"
  | 5 => .object "Belowhouse$Numbers"
  | _ => .array .int
theorem nmX5 : ∀ a, a < 7 → ∀ b, b < 7 → a ≠ b → (TX5 a).2.1 ≠ (TX5 b).2.1 := by decide +kernel
theorem tyX5_ok : ∀ k, k < 7 → parseFieldDescriptor (TX5 k).2.2.1 = some (tyX5 k) := by decide +kernel
abbrev cX5_init : ByteArray := prog_7_method_1_code
def yX5_init : MethodName := ⟨RX5, "<init>", "()V"⟩
abbrev cX5_holdsFor : ByteArray := prog_7_method_2_code
def yX5_holdsFor : MethodName := ⟨RX5, "holdsFor", "(LBelowhouse$Order;)Z"⟩
abbrev cX5_holdsForBoth : ByteArray := prog_7_method_3_code
def yX5_holdsForBoth : MethodName := ⟨RX5, "holdsForBoth", "(LBelowhouse$Order;LBelowhouse$Order;)Z"⟩
abbrev cX5_isOrdered : ByteArray := prog_7_method_4_code
def yX5_isOrdered : MethodName := ⟨RX5, "isOrdered", "(LBelowhouse$Order;)Z"⟩
abbrev cX5_linksLeast : ByteArray := prog_7_method_5_code
def yX5_linksLeast : MethodName := ⟨RX5, "linksLeast", "(LBelowhouse$Order;)Z"⟩
abbrev cX5_linksLeast_ : ByteArray := prog_7_method_6_code
def yX5_linksLeast_ : MethodName := ⟨RX5, "linksLeast", "(LBelowhouse$Order;II)Z"⟩
abbrev cX5_looseComesBack : ByteArray := prog_7_method_7_code
def yX5_looseComesBack : MethodName := ⟨RX5, "looseComesBack", "(LBelowhouse$Order;)Z"⟩
abbrev cX5_growsByGreatest : ByteArray := prog_7_method_8_code
def yX5_growsByGreatest : MethodName := ⟨RX5, "growsByGreatest", "(LBelowhouse$Order;)Z"⟩
abbrev cX5_rowsTellPairs : ByteArray := prog_7_method_9_code
def yX5_rowsTellPairs : MethodName := ⟨RX5, "rowsTellPairs", "(LBelowhouse$Order;)Z"⟩
abbrev cX5_rowsTellPair : ByteArray := prog_7_method_10_code
def yX5_rowsTellPair : MethodName := ⟨RX5, "rowsTellPair", "(LBelowhouse$Order;III)Z"⟩
abbrev cX5_coversFit : ByteArray := prog_7_method_11_code
def yX5_coversFit : MethodName := ⟨RX5, "coversFit", "(LBelowhouse$Order;)Z"⟩
abbrev cX5_closedSetsFit : ByteArray := prog_7_method_12_code
def yX5_closedSetsFit : MethodName := ⟨RX5, "closedSetsFit", "(LBelowhouse$Order;)Z"⟩
abbrev cX5_closedSetFits : ByteArray := prog_7_method_13_code
def yX5_closedSetFits : MethodName := ⟨RX5, "closedSetFits", "(LBelowhouse$Order;I)Z"⟩
abbrev cX5_staysClosedBy : ByteArray := prog_7_method_14_code
def yX5_staysClosedBy : MethodName := ⟨RX5, "staysClosedBy", "(LBelowhouse$Order;I)Z"⟩
abbrev cX5_sumsAreUndone : ByteArray := prog_7_method_15_code
def yX5_sumsAreUndone : MethodName := ⟨RX5, "sumsAreUndone", "(LBelowhouse$Order;)Z"⟩
abbrev cX5_turnsRound : ByteArray := prog_7_method_16_code
def yX5_turnsRound : MethodName := ⟨RX5, "turnsRound", "(LBelowhouse$Order;)Z"⟩
abbrev cX5_sizesTurn : ByteArray := prog_7_method_17_code
def yX5_sizesTurn : MethodName := ⟨RX5, "sizesTurn", "(LBelowhouse$Order;)Z"⟩
abbrev cX5_besideFits : ByteArray := prog_7_method_18_code
def yX5_besideFits : MethodName := ⟨RX5, "besideFits", "(LBelowhouse$Order;LBelowhouse$Order;)Z"⟩
abbrev cX5_aboveFits : ByteArray := prog_7_method_19_code
def yX5_aboveFits : MethodName := ⟨RX5, "aboveFits", "(LBelowhouse$Order;LBelowhouse$Order;)Z"⟩
abbrev cX5_longestOf : ByteArray := prog_7_method_20_code
def yX5_longestOf : MethodName := ⟨RX5, "longestOf", "(LBelowhouse$Order;)I"⟩
abbrev cX5_waysToChoose : ByteArray := prog_7_method_21_code
def yX5_waysToChoose : MethodName := ⟨RX5, "waysToChoose", "(II)I"⟩
def RX6 : String := "Belowhouse"
def TX6 : u_T := fun k => match k with
  | 0 => ("Belowhouse", "orders", "[LBelowhouse$Order;", true)
  | 1 => ("Belowhouse", "made", "LBelowhouse$Order;", true)
  | 2 => ("Belowhouse", "chains", "LBelowhouse$Chains;", true)
  | 3 => ("Belowhouse", "table", "LBelowhouse$RowTable;", true)
  | 4 => ("Belowhouse", "numbers", "LBelowhouse$Numbers;", true)
  | _ => ("Belowhouse", "theorem", "LBelowhouse$Theorem;", true)
def tyX6 : Nat → FieldType := fun k => match k with
  | 0 => .array (.object "Belowhouse$Order")
  | 1 => .object "Belowhouse$Order"
  | 2 => .object "Belowhouse$Chains"
  | 3 => .object "Belowhouse$RowTable"
  | 4 => .object "Belowhouse$Numbers"
  | _ => .object "Belowhouse$Theorem"
theorem nmX6 : ∀ a, a < 6 → ∀ b, b < 6 → a ≠ b → (TX6 a).2.1 ≠ (TX6 b).2.1 := by decide +kernel
theorem tyX6_ok : ∀ k, k < 6 → parseFieldDescriptor (TX6 k).2.2.1 = some (tyX6 k) := by decide +kernel
abbrev cX6_init : ByteArray := prog_1_method_1_code
def yX6_init : MethodName := ⟨RX6, "<init>", "()V"⟩
abbrev cX6_lay : ByteArray := prog_1_method_2_code
def yX6_lay : MethodName := ⟨RX6, "lay", "(II)I"⟩
abbrev cX6_chain : ByteArray := prog_1_method_3_code
def yX6_chain : MethodName := ⟨RX6, "chain", "(II)I"⟩
abbrev cX6_add : ByteArray := prog_1_method_4_code
def yX6_add : MethodName := ⟨RX6, "add", "(II)I"⟩
abbrev cX6_drop : ByteArray := prog_1_method_5_code
def yX6_drop : MethodName := ⟨RX6, "drop", "(II)I"⟩
abbrev cX6_keep : ByteArray := prog_1_method_6_code
def yX6_keep : MethodName := ⟨RX6, "keep", "(II)I"⟩
abbrev cX6_setValue : ByteArray := prog_1_method_7_code
def yX6_setValue : MethodName := ⟨RX6, "setValue", "(III)I"⟩
abbrev cX6_put : ByteArray := prog_1_method_8_code
def yX6_put : MethodName := ⟨RX6, "put", "(III)I"⟩
abbrev cX6_loose : ByteArray := prog_1_method_9_code
def yX6_loose : MethodName := ⟨RX6, "loose", "(III)I"⟩
abbrev cX6_straighten : ByteArray := prog_1_method_10_code
def yX6_straighten : MethodName := ⟨RX6, "straighten", "(II)I"⟩
abbrev cX6_turn : ByteArray := prog_1_method_11_code
def yX6_turn : MethodName := ⟨RX6, "turn", "(I)I"⟩
abbrev cX6_copy : ByteArray := prog_1_method_12_code
def yX6_copy : MethodName := ⟨RX6, "copy", "(II)I"⟩
abbrev cX6_beside : ByteArray := prog_1_method_13_code
def yX6_beside : MethodName := ⟨RX6, "beside", "(III)I"⟩
abbrev cX6_above : ByteArray := prog_1_method_14_code
def yX6_above : MethodName := ⟨RX6, "above", "(III)I"⟩
abbrev cX6_meet : ByteArray := prog_1_method_15_code
def yX6_meet : MethodName := ⟨RX6, "meet", "(III)I"⟩
abbrev cX6_things : ByteArray := prog_1_method_16_code
def yX6_things : MethodName := ⟨RX6, "things", "(I)I"⟩
abbrev cX6_pairs : ByteArray := prog_1_method_17_code
def yX6_pairs : MethodName := ⟨RX6, "pairs", "(I)I"⟩
abbrev cX6_nexts : ByteArray := prog_1_method_18_code
def yX6_nexts : MethodName := ⟨RX6, "nexts", "(I)I"⟩
abbrev cX6_sign : ByteArray := prog_1_method_19_code
def yX6_sign : MethodName := ⟨RX6, "sign", "(III)C"⟩
abbrev cX6_isNext : ByteArray := prog_1_method_20_code
def yX6_isNext : MethodName := ⟨RX6, "isNext", "(III)Z"⟩
abbrev cX6_lower : ByteArray := prog_1_method_21_code
def yX6_lower : MethodName := ⟨RX6, "lower", "(II)I"⟩
abbrev cX6_upper : ByteArray := prog_1_method_22_code
def yX6_upper : MethodName := ⟨RX6, "upper", "(II)I"⟩
abbrev cX6_ends : ByteArray := prog_1_method_23_code
def yX6_ends : MethodName := ⟨RX6, "ends", "(IZ)I"⟩
abbrev cX6_value : ByteArray := prog_1_method_24_code
def yX6_value : MethodName := ⟨RX6, "value", "(II)I"⟩
abbrev cX6_isSame : ByteArray := prog_1_method_25_code
def yX6_isSame : MethodName := ⟨RX6, "isSame", "(II)Z"⟩
abbrev cX6_isChain : ByteArray := prog_1_method_26_code
def yX6_isChain : MethodName := ⟨RX6, "isChain", "(II)Z"⟩
abbrev cX6_isApart : ByteArray := prog_1_method_27_code
def yX6_isApart : MethodName := ⟨RX6, "isApart", "(II)Z"⟩
abbrev cX6_level : ByteArray := prog_1_method_28_code
def yX6_level : MethodName := ⟨RX6, "level", "(II)I"⟩
abbrev cX6_longest : ByteArray := prog_1_method_29_code
def yX6_longest : MethodName := ⟨RX6, "longest", "(I)I"⟩
abbrev cX6_widest : ByteArray := prog_1_method_30_code
def yX6_widest : MethodName := ⟨RX6, "widest", "(I)I"⟩
abbrev cX6_fewestChains : ByteArray := prog_1_method_31_code
def yX6_fewestChains : MethodName := ⟨RX6, "fewestChains", "(I)I"⟩
abbrev cX6_fewestAparts : ByteArray := prog_1_method_32_code
def yX6_fewestAparts : MethodName := ⟨RX6, "fewestAparts", "(I)I"⟩
abbrev cX6_aparts : ByteArray := prog_1_method_33_code
def yX6_aparts : MethodName := ⟨RX6, "aparts", "(I)I"⟩
abbrev cX6_sets : ByteArray := prog_1_method_34_code
def yX6_sets : MethodName := ⟨RX6, "sets", "(I)I"⟩
abbrev cX6_setsOf : ByteArray := prog_1_method_35_code
def yX6_setsOf : MethodName := ⟨RX6, "setsOf", "(II)I"⟩
abbrev cX6_setAt : ByteArray := prog_1_method_36_code
def yX6_setAt : MethodName := ⟨RX6, "setAt", "(II)I"⟩
abbrev cX6_placeOf : ByteArray := prog_1_method_37_code
def yX6_placeOf : MethodName := ⟨RX6, "placeOf", "(II)I"⟩
abbrev cX6_near : ByteArray := prog_1_method_38_code
def yX6_near : MethodName := ⟨RX6, "near", "(IIC)I"⟩
abbrev cX6_closed : ByteArray := prog_1_method_39_code
def yX6_closed : MethodName := ⟨RX6, "closed", "(II)I"⟩
abbrev cX6_inner : ByteArray := prog_1_method_40_code
def yX6_inner : MethodName := ⟨RX6, "inner", "(II)I"⟩
abbrev cX6_tops : ByteArray := prog_1_method_41_code
def yX6_tops : MethodName := ⟨RX6, "tops", "(II)I"⟩
abbrev cX6_shared : ByteArray := prog_1_method_42_code
def yX6_shared : MethodName := ⟨RX6, "shared", "(II)I"⟩
abbrev cX6_rows : ByteArray := prog_1_method_43_code
def yX6_rows : MethodName := ⟨RX6, "rows", "(I)I"⟩
abbrev cX6_rowAt : ByteArray := prog_1_method_44_code
def yX6_rowAt : MethodName := ⟨RX6, "rowAt", "(II)I"⟩
abbrev cX6_rowPlace : ByteArray := prog_1_method_45_code
def yX6_rowPlace : MethodName := ⟨RX6, "rowPlace", "(II)I"⟩
abbrev cX6_nextRow : ByteArray := prog_1_method_46_code
def yX6_nextRow : MethodName := ⟨RX6, "nextRow", "(II)I"⟩
abbrev cX6_rowsWith : ByteArray := prog_1_method_47_code
def yX6_rowsWith : MethodName := ⟨RX6, "rowsWith", "(III)I"⟩
abbrev cX6_rowsAt : ByteArray := prog_1_method_48_code
def yX6_rowsAt : MethodName := ⟨RX6, "rowsAt", "(III)I"⟩
abbrev cX6_meanPlace : ByteArray := prog_1_method_49_code
def yX6_meanPlace : MethodName := ⟨RX6, "meanPlace", "(II)D"⟩
abbrev cX6_share : ByteArray := prog_1_method_50_code
def yX6_share : MethodName := ⟨RX6, "share", "(III)F"⟩
abbrev cX6_sum : ByteArray := prog_1_method_51_code
def yX6_sum : MethodName := ⟨RX6, "sum", "(II)I"⟩
abbrev cX6_number : ByteArray := prog_1_method_52_code
def yX6_number : MethodName := ⟨RX6, "number", "(III)I"⟩
abbrev cX6_undone : ByteArray := prog_1_method_53_code
def yX6_undone : MethodName := ⟨RX6, "undone", "(II)I"⟩
abbrev cX6_isSound : ByteArray := prog_1_method_54_code
def yX6_isSound : MethodName := ⟨RX6, "isSound", "(I)Z"⟩
abbrev cX6_areSound : ByteArray := prog_1_method_55_code
def yX6_areSound : MethodName := ⟨RX6, "areSound", "(II)Z"⟩
abbrev cX6_checksum : ByteArray := prog_1_method_56_code
def yX6_checksum : MethodName := ⟨RX6, "checksum", "()J"⟩
abbrev cX6_mixedIn : ByteArray := prog_1_method_57_code
def yX6_mixedIn : MethodName := ⟨RX6, "mixedIn", "(JLBelowhouse$Order;)J"⟩
abbrev cX6_orderAt : ByteArray := prog_1_method_58_code
def yX6_orderAt : MethodName := ⟨RX6, "orderAt", "(I)LBelowhouse$Order;"⟩
abbrev cX6_orderWith : ByteArray := prog_1_method_59_code
def yX6_orderWith : MethodName := ⟨RX6, "orderWith", "(II)LBelowhouse$Order;"⟩
abbrev cX6_orderWithBoth : ByteArray := prog_1_method_60_code
def yX6_orderWithBoth : MethodName := ⟨RX6, "orderWithBoth", "(III)LBelowhouse$Order;"⟩
abbrev cX6_orderWithSet : ByteArray := prog_1_method_61_code
def yX6_orderWithSet : MethodName := ⟨RX6, "orderWithSet", "(II)LBelowhouse$Order;"⟩
abbrev cX6_refuseOddMany : ByteArray := prog_1_method_62_code
def yX6_refuseOddMany : MethodName := ⟨RX6, "refuseOddMany", "(I)V"⟩
abbrev cX6_refuseOddValue : ByteArray := prog_1_method_63_code
def yX6_refuseOddValue : MethodName := ⟨RX6, "refuseOddValue", "(I)V"⟩
abbrev cX6_layOutRow : ByteArray := prog_1_method_64_code
def yX6_layOutRow : MethodName := ⟨RX6, "layOutRow", "(LBelowhouse$Order;I)V"⟩
abbrev cX6_joinInto : ByteArray := prog_1_method_65_code
def yX6_joinInto : MethodName := ⟨RX6, "joinInto", "(IIIZ)LBelowhouse$Order;"⟩
abbrev cX6_atLeastOne : ByteArray := prog_1_method_66_code
def yX6_atLeastOne : MethodName := ⟨RX6, "atLeastOne", "(I)I"⟩
abbrev cX6_has : ByteArray := prog_1_method_67_code
def yX6_has : MethodName := ⟨RX6, "has", "(II)Z"⟩
abbrev cX6_isWithin : ByteArray := prog_1_method_68_code
def yX6_isWithin : MethodName := ⟨RX6, "isWithin", "(II)Z"⟩
def RX7 : String := "BelowhouseModel"
def TX7 : u_T := fun k => match k with
  | 0 => ("BelowhouseModel", "things", "[I", true)
  | 1 => ("BelowhouseModel", "values", "[[I", true)
  | 2 => ("BelowhouseModel", "below", "[[[Z", true)
  | 3 => ("BelowhouseModel", "code", "I", false)
  | 4 => ("BelowhouseModel", "ways", "[I", true)
  | 5 => ("BelowhouseModel", "parts", "[I", true)
  | 6 => ("BelowhouseModel", "line", "[I", true)
  | _ => ("BelowhouseModel", "lows", "[I", true)
def tyX7 : Nat → FieldType := fun k => match k with
  | 0 => .array .int
  | 1 => .array (.array .int)
  | 2 => .array (.array (.array .boolean))
  | 3 => .int
  | 4 => .array .int
  | 5 => .array .int
  | 6 => .array .int
  | _ => .array .int
theorem nmX7 : ∀ a, a < 8 → ∀ b, b < 8 → a ≠ b → (TX7 a).2.1 ≠ (TX7 b).2.1 := by decide +kernel
theorem tyX7_ok : ∀ k, k < 8 → parseFieldDescriptor (TX7 k).2.2.1 = some (tyX7 k) := by decide +kernel
abbrev cX7_init : ByteArray := prog_9_method_1_code
def yX7_init : MethodName := ⟨RX7, "<init>", "()V"⟩
abbrev cX7_thrown : ByteArray := prog_9_method_2_code
def yX7_thrown : MethodName := ⟨RX7, "thrown", "()I"⟩
abbrev cX7_lets : ByteArray := prog_9_method_3_code
def yX7_lets : MethodName := ⟨RX7, "lets", "(ZI)Z"⟩
abbrev cX7_in : ByteArray := prog_9_method_4_code
def yX7_in : MethodName := ⟨RX7, "in", "(III)Z"⟩
abbrev cX7_isOrder : ByteArray := prog_9_method_5_code
def yX7_isOrder : MethodName := ⟨RX7, "isOrder", "(I)Z"⟩
abbrev cX7_isThing : ByteArray := prog_9_method_6_code
def yX7_isThing : MethodName := ⟨RX7, "isThing", "(II)Z"⟩
abbrev cX7_isSet : ByteArray := prog_9_method_7_code
def yX7_isSet : MethodName := ⟨RX7, "isSet", "(II)Z"⟩
abbrev cX7_has : ByteArray := prog_9_method_8_code
def yX7_has : MethodName := ⟨RX7, "has", "(II)Z"⟩
abbrev cX7_manyIn : ByteArray := prog_9_method_9_code
def yX7_manyIn : MethodName := ⟨RX7, "manyIn", "(I)I"⟩
abbrev cX7_empty : ByteArray := prog_9_method_10_code
def yX7_empty : MethodName := ⟨RX7, "empty", "(II)V"⟩
abbrev cX7_becomes : ByteArray := prog_9_method_11_code
def yX7_becomes : MethodName := ⟨RX7, "becomes", "(II)V"⟩
abbrev cX7_pairsOf : ByteArray := prog_9_method_12_code
def yX7_pairsOf : MethodName := ⟨RX7, "pairsOf", "(I)I"⟩
abbrev cX7_lay : ByteArray := prog_9_method_13_code
def yX7_lay : MethodName := ⟨RX7, "lay", "(II)I"⟩
abbrev cX7_chain : ByteArray := prog_9_method_14_code
def yX7_chain : MethodName := ⟨RX7, "chain", "(II)I"⟩
abbrev cX7_add : ByteArray := prog_9_method_15_code
def yX7_add : MethodName := ⟨RX7, "add", "(II)I"⟩
abbrev cX7_stay : ByteArray := prog_9_method_16_code
def yX7_stay : MethodName := ⟨RX7, "stay", "(II)V"⟩
abbrev cX7_drop : ByteArray := prog_9_method_17_code
def yX7_drop : MethodName := ⟨RX7, "drop", "(II)I"⟩
abbrev cX7_keep : ByteArray := prog_9_method_18_code
def yX7_keep : MethodName := ⟨RX7, "keep", "(II)I"⟩
abbrev cX7_setValue : ByteArray := prog_9_method_19_code
def yX7_setValue : MethodName := ⟨RX7, "setValue", "(III)I"⟩
abbrev cX7_isUpTo : ByteArray := prog_9_method_20_code
def yX7_isUpTo : MethodName := ⟨RX7, "isUpTo", "(III)Z"⟩
abbrev cX7_put : ByteArray := prog_9_method_21_code
def yX7_put : MethodName := ⟨RX7, "put", "(III)I"⟩
abbrev cX7_next : ByteArray := prog_9_method_22_code
def yX7_next : MethodName := ⟨RX7, "next", "(III)Z"⟩
abbrev cX7_loose : ByteArray := prog_9_method_23_code
def yX7_loose : MethodName := ⟨RX7, "loose", "(III)I"⟩
abbrev cX7_straighten : ByteArray := prog_9_method_24_code
def yX7_straighten : MethodName := ⟨RX7, "straighten", "(II)I"⟩
abbrev cX7_turn : ByteArray := prog_9_method_25_code
def yX7_turn : MethodName := ⟨RX7, "turn", "(I)I"⟩
abbrev cX7_copy : ByteArray := prog_9_method_26_code
def yX7_copy : MethodName := ⟨RX7, "copy", "(II)I"⟩
abbrev cX7_joins : ByteArray := prog_9_method_27_code
def yX7_joins : MethodName := ⟨RX7, "joins", "(IIZ)V"⟩
abbrev cX7_canJoin : ByteArray := prog_9_method_28_code
def yX7_canJoin : MethodName := ⟨RX7, "canJoin", "(III)Z"⟩
abbrev cX7_beside : ByteArray := prog_9_method_29_code
def yX7_beside : MethodName := ⟨RX7, "beside", "(III)I"⟩
abbrev cX7_above : ByteArray := prog_9_method_30_code
def yX7_above : MethodName := ⟨RX7, "above", "(III)I"⟩
abbrev cX7_meet : ByteArray := prog_9_method_31_code
def yX7_meet : MethodName := ⟨RX7, "meet", "(III)I"⟩
abbrev cX7_things : ByteArray := prog_9_method_32_code
def yX7_things : MethodName := ⟨RX7, "things", "(I)I"⟩
abbrev cX7_pairs : ByteArray := prog_9_method_33_code
def yX7_pairs : MethodName := ⟨RX7, "pairs", "(I)I"⟩
abbrev cX7_nexts : ByteArray := prog_9_method_34_code
def yX7_nexts : MethodName := ⟨RX7, "nexts", "(I)I"⟩
abbrev cX7_sign : ByteArray := prog_9_method_35_code
def yX7_sign : MethodName := ⟨RX7, "sign", "(III)C"⟩
abbrev cX7_isNext : ByteArray := prog_9_method_36_code
def yX7_isNext : MethodName := ⟨RX7, "isNext", "(III)Z"⟩
abbrev cX7_lowerOf : ByteArray := prog_9_method_37_code
def yX7_lowerOf : MethodName := ⟨RX7, "lowerOf", "(II)I"⟩
abbrev cX7_upperOf : ByteArray := prog_9_method_38_code
def yX7_upperOf : MethodName := ⟨RX7, "upperOf", "(II)I"⟩
abbrev cX7_lower : ByteArray := prog_9_method_39_code
def yX7_lower : MethodName := ⟨RX7, "lower", "(II)I"⟩
abbrev cX7_upper : ByteArray := prog_9_method_40_code
def yX7_upper : MethodName := ⟨RX7, "upper", "(II)I"⟩
abbrev cX7_ends : ByteArray := prog_9_method_41_code
def yX7_ends : MethodName := ⟨RX7, "ends", "(IZ)I"⟩
abbrev cX7_value : ByteArray := prog_9_method_42_code
def yX7_value : MethodName := ⟨RX7, "value", "(II)I"⟩
abbrev cX7_isSame : ByteArray := prog_9_method_43_code
def yX7_isSame : MethodName := ⟨RX7, "isSame", "(II)Z"⟩
abbrev cX7_isAll : ByteArray := prog_9_method_44_code
def yX7_isAll : MethodName := ⟨RX7, "isAll", "(IIZ)Z"⟩
abbrev cX7_isChain : ByteArray := prog_9_method_45_code
def yX7_isChain : MethodName := ⟨RX7, "isChain", "(II)Z"⟩
abbrev cX7_isApart : ByteArray := prog_9_method_46_code
def yX7_isApart : MethodName := ⟨RX7, "isApart", "(II)Z"⟩
abbrev cX7_levelOf : ByteArray := prog_9_method_47_code
def yX7_levelOf : MethodName := ⟨RX7, "levelOf", "(II)I"⟩
abbrev cX7_level : ByteArray := prog_9_method_48_code
def yX7_level : MethodName := ⟨RX7, "level", "(II)I"⟩
abbrev cX7_mostOf : ByteArray := prog_9_method_49_code
def yX7_mostOf : MethodName := ⟨RX7, "mostOf", "(IZ)I"⟩
abbrev cX7_longest : ByteArray := prog_9_method_50_code
def yX7_longest : MethodName := ⟨RX7, "longest", "(I)I"⟩
abbrev cX7_widest : ByteArray := prog_9_method_51_code
def yX7_widest : MethodName := ⟨RX7, "widest", "(I)I"⟩
abbrev cX7_fewestOf : ByteArray := prog_9_method_52_code
def yX7_fewestOf : MethodName := ⟨RX7, "fewestOf", "(IZ)I"⟩
abbrev cX7_fewestChains : ByteArray := prog_9_method_53_code
def yX7_fewestChains : MethodName := ⟨RX7, "fewestChains", "(I)I"⟩
abbrev cX7_fewestAparts : ByteArray := prog_9_method_54_code
def yX7_fewestAparts : MethodName := ⟨RX7, "fewestAparts", "(I)I"⟩
abbrev cX7_aparts : ByteArray := prog_9_method_55_code
def yX7_aparts : MethodName := ⟨RX7, "aparts", "(I)I"⟩
abbrev cX7_closure : ByteArray := prog_9_method_56_code
def yX7_closure : MethodName := ⟨RX7, "closure", "(II)I"⟩
abbrev cX7_isClosed : ByteArray := prog_9_method_57_code
def yX7_isClosed : MethodName := ⟨RX7, "isClosed", "(II)Z"⟩
abbrev cX7_isAhead : ByteArray := prog_9_method_58_code
def yX7_isAhead : MethodName := ⟨RX7, "isAhead", "(II)Z"⟩
abbrev cX7_placeIn : ByteArray := prog_9_method_59_code
def yX7_placeIn : MethodName := ⟨RX7, "placeIn", "(II)I"⟩
abbrev cX7_manyOf : ByteArray := prog_9_method_60_code
def yX7_manyOf : MethodName := ⟨RX7, "manyOf", "(II)I"⟩
abbrev cX7_sets : ByteArray := prog_9_method_61_code
def yX7_sets : MethodName := ⟨RX7, "sets", "(I)I"⟩
abbrev cX7_setsOf : ByteArray := prog_9_method_62_code
def yX7_setsOf : MethodName := ⟨RX7, "setsOf", "(II)I"⟩
abbrev cX7_setAt : ByteArray := prog_9_method_63_code
def yX7_setAt : MethodName := ⟨RX7, "setAt", "(II)I"⟩
abbrev cX7_placeOf : ByteArray := prog_9_method_64_code
def yX7_placeOf : MethodName := ⟨RX7, "placeOf", "(II)I"⟩
abbrev cX7_near : ByteArray := prog_9_method_65_code
def yX7_near : MethodName := ⟨RX7, "near", "(IIC)I"⟩
abbrev cX7_closed : ByteArray := prog_9_method_66_code
def yX7_closed : MethodName := ⟨RX7, "closed", "(II)I"⟩
abbrev cX7_inner : ByteArray := prog_9_method_67_code
def yX7_inner : MethodName := ⟨RX7, "inner", "(II)I"⟩
abbrev cX7_tops : ByteArray := prog_9_method_68_code
def yX7_tops : MethodName := ⟨RX7, "tops", "(II)I"⟩
abbrev cX7_shared : ByteArray := prog_9_method_69_code
def yX7_shared : MethodName := ⟨RX7, "shared", "(II)I"⟩
abbrev cX7_follow : ByteArray := prog_9_method_70_code
def yX7_follow : MethodName := ⟨RX7, "follow", "(IIIZ)I"⟩
abbrev cX7_rowsOf : ByteArray := prog_9_method_71_code
def yX7_rowsOf : MethodName := ⟨RX7, "rowsOf", "(I)I"⟩
abbrev cX7_lineUp : ByteArray := prog_9_method_72_code
def yX7_lineUp : MethodName := ⟨RX7, "lineUp", "(II)I"⟩
abbrev cX7_placeOfRow : ByteArray := prog_9_method_73_code
def yX7_placeOfRow : MethodName := ⟨RX7, "placeOfRow", "(II)I"⟩
abbrev cX7_rows : ByteArray := prog_9_method_74_code
def yX7_rows : MethodName := ⟨RX7, "rows", "(I)I"⟩
abbrev cX7_rowAt : ByteArray := prog_9_method_75_code
def yX7_rowAt : MethodName := ⟨RX7, "rowAt", "(II)I"⟩
abbrev cX7_rowPlace : ByteArray := prog_9_method_76_code
def yX7_rowPlace : MethodName := ⟨RX7, "rowPlace", "(II)I"⟩
abbrev cX7_nextRow : ByteArray := prog_9_method_77_code
def yX7_nextRow : MethodName := ⟨RX7, "nextRow", "(II)I"⟩
abbrev cX7_with : ByteArray := prog_9_method_78_code
def yX7_with : MethodName := ⟨RX7, "with", "(III)I"⟩
abbrev cX7_at : ByteArray := prog_9_method_79_code
def yX7_at : MethodName := ⟨RX7, "at", "(III)I"⟩
abbrev cX7_rowsWith : ByteArray := prog_9_method_80_code
def yX7_rowsWith : MethodName := ⟨RX7, "rowsWith", "(III)I"⟩
abbrev cX7_rowsAt : ByteArray := prog_9_method_81_code
def yX7_rowsAt : MethodName := ⟨RX7, "rowsAt", "(III)I"⟩
abbrev cX7_meanPlace : ByteArray := prog_9_method_82_code
def yX7_meanPlace : MethodName := ⟨RX7, "meanPlace", "(II)D"⟩
abbrev cX7_share : ByteArray := prog_9_method_83_code
def yX7_share : MethodName := ⟨RX7, "share", "(III)F"⟩
abbrev cX7_sumOf : ByteArray := prog_9_method_84_code
def yX7_sumOf : MethodName := ⟨RX7, "sumOf", "(II)I"⟩
abbrev cX7_numberOf : ByteArray := prog_9_method_85_code
def yX7_numberOf : MethodName := ⟨RX7, "numberOf", "(III)I"⟩
abbrev cX7_sum : ByteArray := prog_9_method_86_code
def yX7_sum : MethodName := ⟨RX7, "sum", "(II)I"⟩
abbrev cX7_number : ByteArray := prog_9_method_87_code
def yX7_number : MethodName := ⟨RX7, "number", "(III)I"⟩
abbrev cX7_undone : ByteArray := prog_9_method_88_code
def yX7_undone : MethodName := ⟨RX7, "undone", "(II)I"⟩
abbrev cX7_isSound : ByteArray := prog_9_method_89_code
def yX7_isSound : MethodName := ⟨RX7, "isSound", "(I)Z"⟩
abbrev cX7_areSound : ByteArray := prog_9_method_90_code
def yX7_areSound : MethodName := ⟨RX7, "areSound", "(II)Z"⟩
abbrev cX7_checksum : ByteArray := prog_9_method_91_code
def yX7_checksum : MethodName := ⟨RX7, "checksum", "()J"⟩
def RJ6 : String := "java/lang/Integer"
abbrev cJ6_bitCount_0f7a4 : ByteArray := prog_14_method_49_code
def yJ6_bitCount_0f7a4 : MethodName := ⟨RJ6, "bitCount", "(I)I"⟩
def RJ9 : String := "java/lang/Math"
abbrev cJ9_max_7cf53 : ByteArray := prog_15_method_65_code
def yJ9_max_7cf53 : MethodName := ⟨RJ9, "max", "(II)I"⟩
abbrev cJ9_min_7cf53 : ByteArray := prog_15_method_69_code
def yJ9_min_7cf53 : MethodName := ⟨RJ9, "min", "(II)I"⟩
def RJ0 : String := "java/lang/String"
def RL : String := "BelowhouseLaw"
abbrev cL_lay : ByteArray := method_3_code
def yL_lay : MethodName := ⟨RL, "lay", "(LBelowhouse;II[J)I"⟩
abbrev cL_chain : ByteArray := method_4_code
def yL_chain : MethodName := ⟨RL, "chain", "(LBelowhouse;II[J)I"⟩
abbrev cL_add : ByteArray := method_5_code
def yL_add : MethodName := ⟨RL, "add", "(LBelowhouse;II[J)I"⟩
abbrev cL_drop : ByteArray := method_6_code
def yL_drop : MethodName := ⟨RL, "drop", "(LBelowhouse;II[J)I"⟩
abbrev cL_keep : ByteArray := method_7_code
def yL_keep : MethodName := ⟨RL, "keep", "(LBelowhouse;II[J)I"⟩
abbrev cL_setValue : ByteArray := method_8_code
def yL_setValue : MethodName := ⟨RL, "setValue", "(LBelowhouse;III[J)I"⟩
abbrev cL_put : ByteArray := method_9_code
def yL_put : MethodName := ⟨RL, "put", "(LBelowhouse;III[J)I"⟩
abbrev cL_loose : ByteArray := method_10_code
def yL_loose : MethodName := ⟨RL, "loose", "(LBelowhouse;III[J)I"⟩
abbrev cL_straighten : ByteArray := method_11_code
def yL_straighten : MethodName := ⟨RL, "straighten", "(LBelowhouse;II[J)I"⟩
abbrev cL_turn : ByteArray := method_12_code
def yL_turn : MethodName := ⟨RL, "turn", "(LBelowhouse;I[J)I"⟩
abbrev cL_copy : ByteArray := method_13_code
def yL_copy : MethodName := ⟨RL, "copy", "(LBelowhouse;II[J)I"⟩
abbrev cL_beside : ByteArray := method_14_code
def yL_beside : MethodName := ⟨RL, "beside", "(LBelowhouse;III[J)I"⟩
abbrev cL_above : ByteArray := method_15_code
def yL_above : MethodName := ⟨RL, "above", "(LBelowhouse;III[J)I"⟩
abbrev cL_meet : ByteArray := method_16_code
def yL_meet : MethodName := ⟨RL, "meet", "(LBelowhouse;III[J)I"⟩
abbrev cL_things : ByteArray := method_17_code
def yL_things : MethodName := ⟨RL, "things", "(LBelowhouse;I[J)I"⟩
abbrev cL_pairs : ByteArray := method_18_code
def yL_pairs : MethodName := ⟨RL, "pairs", "(LBelowhouse;I[J)I"⟩
abbrev cL_nexts : ByteArray := method_19_code
def yL_nexts : MethodName := ⟨RL, "nexts", "(LBelowhouse;I[J)I"⟩
abbrev cL_sign : ByteArray := method_20_code
def yL_sign : MethodName := ⟨RL, "sign", "(LBelowhouse;III[J)I"⟩
abbrev cL_isNext : ByteArray := method_21_code
def yL_isNext : MethodName := ⟨RL, "isNext", "(LBelowhouse;III[J)I"⟩
abbrev cL_lower : ByteArray := method_22_code
def yL_lower : MethodName := ⟨RL, "lower", "(LBelowhouse;II[J)I"⟩
abbrev cL_upper : ByteArray := method_23_code
def yL_upper : MethodName := ⟨RL, "upper", "(LBelowhouse;II[J)I"⟩
abbrev cL_ends : ByteArray := method_24_code
def yL_ends : MethodName := ⟨RL, "ends", "(LBelowhouse;IZ[J)I"⟩
abbrev cL_value : ByteArray := method_25_code
def yL_value : MethodName := ⟨RL, "value", "(LBelowhouse;II[J)I"⟩
abbrev cL_isSame : ByteArray := method_26_code
def yL_isSame : MethodName := ⟨RL, "isSame", "(LBelowhouse;II[J)I"⟩
abbrev cL_isChain : ByteArray := method_27_code
def yL_isChain : MethodName := ⟨RL, "isChain", "(LBelowhouse;II[J)I"⟩
abbrev cL_isApart : ByteArray := method_28_code
def yL_isApart : MethodName := ⟨RL, "isApart", "(LBelowhouse;II[J)I"⟩
abbrev cL_level : ByteArray := method_29_code
def yL_level : MethodName := ⟨RL, "level", "(LBelowhouse;II[J)I"⟩
abbrev cL_longest : ByteArray := method_30_code
def yL_longest : MethodName := ⟨RL, "longest", "(LBelowhouse;I[J)I"⟩
abbrev cL_widest : ByteArray := method_31_code
def yL_widest : MethodName := ⟨RL, "widest", "(LBelowhouse;I[J)I"⟩
abbrev cL_fewestChains : ByteArray := method_32_code
def yL_fewestChains : MethodName := ⟨RL, "fewestChains", "(LBelowhouse;I[J)I"⟩
abbrev cL_fewestAparts : ByteArray := method_33_code
def yL_fewestAparts : MethodName := ⟨RL, "fewestAparts", "(LBelowhouse;I[J)I"⟩
abbrev cL_aparts : ByteArray := method_34_code
def yL_aparts : MethodName := ⟨RL, "aparts", "(LBelowhouse;I[J)I"⟩
abbrev cL_sets : ByteArray := method_35_code
def yL_sets : MethodName := ⟨RL, "sets", "(LBelowhouse;I[J)I"⟩
abbrev cL_setsOf : ByteArray := method_36_code
def yL_setsOf : MethodName := ⟨RL, "setsOf", "(LBelowhouse;II[J)I"⟩
abbrev cL_setAt : ByteArray := method_37_code
def yL_setAt : MethodName := ⟨RL, "setAt", "(LBelowhouse;II[J)I"⟩
abbrev cL_placeOf : ByteArray := method_38_code
def yL_placeOf : MethodName := ⟨RL, "placeOf", "(LBelowhouse;II[J)I"⟩
abbrev cL_near : ByteArray := method_39_code
def yL_near : MethodName := ⟨RL, "near", "(LBelowhouse;IIC[J)I"⟩
abbrev cL_closed : ByteArray := method_40_code
def yL_closed : MethodName := ⟨RL, "closed", "(LBelowhouse;II[J)I"⟩
abbrev cL_inner : ByteArray := method_41_code
def yL_inner : MethodName := ⟨RL, "inner", "(LBelowhouse;II[J)I"⟩
abbrev cL_tops : ByteArray := method_42_code
def yL_tops : MethodName := ⟨RL, "tops", "(LBelowhouse;II[J)I"⟩
abbrev cL_shared : ByteArray := method_43_code
def yL_shared : MethodName := ⟨RL, "shared", "(LBelowhouse;II[J)I"⟩
abbrev cL_rows : ByteArray := method_44_code
def yL_rows : MethodName := ⟨RL, "rows", "(LBelowhouse;I[J)I"⟩
abbrev cL_rowAt : ByteArray := method_45_code
def yL_rowAt : MethodName := ⟨RL, "rowAt", "(LBelowhouse;II[J)I"⟩
abbrev cL_rowPlace : ByteArray := method_46_code
def yL_rowPlace : MethodName := ⟨RL, "rowPlace", "(LBelowhouse;II[J)I"⟩
abbrev cL_nextRow : ByteArray := method_47_code
def yL_nextRow : MethodName := ⟨RL, "nextRow", "(LBelowhouse;II[J)I"⟩
abbrev cL_rowsWith : ByteArray := method_48_code
def yL_rowsWith : MethodName := ⟨RL, "rowsWith", "(LBelowhouse;III[J)I"⟩
abbrev cL_rowsAt : ByteArray := method_49_code
def yL_rowsAt : MethodName := ⟨RL, "rowsAt", "(LBelowhouse;III[J)I"⟩
abbrev cL_meanPlace : ByteArray := method_50_code
def yL_meanPlace : MethodName := ⟨RL, "meanPlace", "(LBelowhouse;II[D)I"⟩
abbrev cL_share : ByteArray := method_51_code
def yL_share : MethodName := ⟨RL, "share", "(LBelowhouse;III[D)I"⟩
abbrev cL_sum : ByteArray := method_52_code
def yL_sum : MethodName := ⟨RL, "sum", "(LBelowhouse;II[J)I"⟩
abbrev cL_number : ByteArray := method_53_code
def yL_number : MethodName := ⟨RL, "number", "(LBelowhouse;III[J)I"⟩
abbrev cL_undone : ByteArray := method_54_code
def yL_undone : MethodName := ⟨RL, "undone", "(LBelowhouse;II[J)I"⟩
abbrev cL_isSound : ByteArray := method_55_code
def yL_isSound : MethodName := ⟨RL, "isSound", "(LBelowhouse;I[J)I"⟩
abbrev cL_areSound : ByteArray := method_56_code
def yL_areSound : MethodName := ⟨RL, "areSound", "(LBelowhouse;II[J)I"⟩
abbrev cL_law : ByteArray := code
def yL_law : MethodName := ⟨RL, "law", "([I)Z"⟩
abbrev vwCl : List vw_C := [(RX0, TX0, 2), (RX2, TX2, 1), (RX3, TX3, 3), (RX4, TX4, 3), (RX5, TX5, 7), (RX6, TX6, 6), (RX7, TX7, 8)]
/-! ===== the table's words, as one predicate of a state ===== -/
def okW : Cond → Bool
  | .methodLinkNest _ _ _ _ => true
  | w => w.onTables && w.keeps
def Tz : List Cond := lw_tbl.filter okW
def TB (U : State) : Prop := ∀ w ∈ Tz, w.before #[] U = true
theorem okW_onTables {w : Cond} (h : okW w = true) : w.onTables = true := by
  cases w <;> first | rfl | (simp only [okW, Bool.and_eq_true] at h; exact h.1)
theorem TB.use {U : State} (h : TB U) {w : Cond} (hw : w ∈ Tz) {A : Array Value} : w.before A U = true :=
  va_Nw.use (okW_onTables (List.mem_filter.mp hw).2) (h w hw)
theorem okW_moved {w : Cond} (hk : okW w = true) {s U : State} (hW : s.WarmedH U.vm) (h : w.before #[] s = true) : w.before #[] U = true := by
  cases w with
  | methodLinkNest a i x z => exact va_Nw.warmM hW h
  | _ => exact word_at hW (Or.inl hk) h
theorem TB.moved {s U : State} (hW : s.WarmedH U.vm) (h : TB s) : TB U := fun w hw => okW_moved (List.mem_filter.mp hw).2 hW (h w hw)
theorem TB.same {u U : State} (e : u.vm = U.vm) (h : TB u) : TB U := fun w hw => va_Nw.same (okW_onTables (List.mem_filter.mp hw).2) e (h w hw)
theorem Tz_mem {w : Cond} (h : w ∈ lw_tbl) (hk : okW w = true) : w ∈ Tz := List.mem_filter.mpr ⟨h, hk⟩
theorem tz0 {w : Cond} (h : w ∈ k2_sels lw_privs) : w ∈ lw_tbl := List.mem_append_left _ h
theorem tzT {w : Cond} (h : w ∈ tables_1) : w ∈ lw_tbl := List.mem_append_right _ h
theorem tz1 {w : Cond} (h : w ∈ tables_1_1) : w ∈ lw_tbl := tzT (List.mem_append_left _ h)
theorem tz2 {w : Cond} (h : w ∈ tables_1_2) : w ∈ lw_tbl := tzT (List.mem_append_right _ (List.mem_append_left _ h))
theorem tz3 {w : Cond} (h : w ∈ tables_1_3) : w ∈ lw_tbl := tzT (List.mem_append_right _ (List.mem_append_right _ (List.mem_append_left _ h)))
theorem tz4 {w : Cond} (h : w ∈ tables_1_4) : w ∈ lw_tbl := tzT (List.mem_append_right _ (List.mem_append_right _ (List.mem_append_right _ (List.mem_append_left _ h))))
theorem tz5 {w : Cond} (h : w ∈ tables_1_5) : w ∈ lw_tbl := tzT (List.mem_append_right _ (List.mem_append_right _ (List.mem_append_right _ (List.mem_append_right _ (List.mem_append_left _ h)))))
theorem tz6 {w : Cond} (h : w ∈ tables_1_6) : w ∈ lw_tbl := tzT (List.mem_append_right _ (List.mem_append_right _ (List.mem_append_right _ (List.mem_append_right _ (List.mem_append_right _ (List.mem_append_left _ h))))))
theorem tz7 {w : Cond} (h : w ∈ tables_1_7) : w ∈ lw_tbl := tzT (List.mem_append_right _ (List.mem_append_right _ (List.mem_append_right _ (List.mem_append_right _ (List.mem_append_right _ (List.mem_append_right _ h))))))
/-! ===== the world: all cells, made at the law's start, at B + k ===== -/
abbrev Mem : Type := Nat → Nat → Int32
abbrev Ou : Type := (Nat → Int64) × (Nat → UInt64)
/-- kinds of cells: 0 int[], 1 boolean[], 2 Order, 3 Chains, 4 RowTable, 5 Numbers, 6 Theorem, 7 Belowhouse, 8 Model, 9 Order[], 10 int[][], 11 boolean[][][], 12 boolean[][], 13 long[], 14 double[] -/
def kdL : List Nat := [7, 9, 2, 0, 0, 2, 0, 0, 2, 0, 0, 2, 0, 0, 2, 0, 0, 3, 0, 0, 4, 0, 0, 0, 5, 0, 6, 2, 0, 0, 2, 0, 0, 4, 0, 0, 0, 4, 0, 0, 0, 3, 0, 0, 5, 0, 0, 8, 0, 10, 0, 0, 0, 0, 0, 11, 12, 1, 1, 1, 1, 1, 1, 1, 1, 1, 12, 1, 1, 1, 1, 1, 1, 1, 1, 1, 12, 1, 1, 1, 1, 1, 1, 1, 1, 1, 12, 1, 1, 1, 1, 1, 1, 1, 1, 1, 12, 1, 1, 1, 1, 1, 1, 1, 1, 1, 0, 0, 0, 0, 13, 14]
def lnL : List Nat := [0, 4, 0, 9, 9, 0, 9, 9, 0, 9, 9, 0, 9, 9, 0, 9, 9, 0, 9, 9, 0, 512, 512, 9, 0, 9, 0, 0, 9, 9, 0, 9, 9, 0, 512, 512, 9, 0, 512, 512, 9, 0, 9, 9, 0, 9, 10, 0, 5, 5, 9, 9, 9, 9, 9, 5, 9, 9, 9, 9, 9, 9, 9, 9, 9, 9, 9, 9, 9, 9, 9, 9, 9, 9, 9, 9, 9, 9, 9, 9, 9, 9, 9, 9, 9, 9, 9, 9, 9, 9, 9, 9, 9, 9, 9, 9, 9, 9, 9, 9, 9, 9, 9, 9, 9, 9, 512, 512, 9, 9, 1, 1]
def kd (k : Nat) : Nat := kdL.getD k 99
def ln (k : Nat) : Nat := lnL.getD k 0
def ent (B : Nat) (Y : Nat → ClassId) (M : Mem) (o : Ou) (k : Nat) : va_E := match kd k with
  | 0 => .inl (Y 0, ln k, .inl (M k))
  | 1 => .inl (Y 1, ln k, .inl (M k))
  | 2 => .inr (2, [.int (M k 0), .ref (B + (k + 1)), .ref (B + (k + 2))])
  | 3 => .inr (0, [.ref (B + (k + 1)), .ref (B + (k + 2))])
  | 4 => .inr (3, [.ref (B + (k + 1)), .ref (B + (k + 2)), .ref (B + (k + 3))])
  | 5 => .inr (1, [.ref (B + (k + 1))])
  | 6 => .inr (4, [.ref (B + 27), .ref (B + 30), .ref (B + 33), .ref (B + 37), .ref (B + 41), .ref (B + 44), .ref (B + 46)])
  | 7 => .inr (5, [.ref (B + 1), .ref (B + 14), .ref (B + 17), .ref (B + 20), .ref (B + 24), .ref (B + 26)])
  | 8 => .inr (6, [.ref (B + 48), .ref (B + 49), .ref (B + 55), .int (M k 3), .ref (B + 106), .ref (B + 107), .ref (B + 108), .ref (B + 109)])
  | 9 => .inl (Y 2, 4, .inr (.inr (.inr (.inr (fun j => some (B + (2 + 3 * j)))))))
  | 10 => .inl (Y 3, 5, .inr (.inr (.inr (.inr (fun j => some (B + (50 + j)))))))
  | 11 => .inl (Y 4, 5, .inr (.inr (.inr (.inr (fun j => some (B + (56 + 10 * j)))))))
  | 12 => .inl (Y 5, 9, .inr (.inr (.inr (.inr (fun j => some (B + (k + 1 + j)))))))
  | 13 => .inl (Y 6, 1, .inr (.inl o.1))
  | _ => .inl (Y 7, 1, .inr (.inr (.inr (.inl o.2))))
def WL (B : Nat) (Y : Nat → ClassId) (M : Mem) (o : Ou) : va_W := (List.range 112).map (fun k => (B + k, ent B Y M o k))
theorem WL_at {B : Nat} {Y : Nat → ClassId} {M : Mem} {o : Ou} {k : Nat} (h : k < 112) : (WL B Y M o)[k]? = some (B + k, ent B Y M o k) := by
  simp [WL, List.getElem?_range h]
theorem WL_out {B : Nat} {Y : Nat → ClassId} {M : Mem} {o : Ou} {k : Nat} (h : ¬ k < 112) : (WL B Y M o)[k]? = none := by
  simp [WL]; omega
theorem WL_inv {B : Nat} {Y : Nat → ClassId} {M : Mem} {o : Ou} {k : Nat} {q : Nat × va_E} (h : (WL B Y M o)[k]? = some q) : k < 112 ∧ q = (B + k, ent B Y M o k) := by
  by_cases hk : k < 112
  · rw [WL_at hk] at h
    exact ⟨hk, (Option.some.inj h).symm⟩
  · rw [WL_out hk] at h
    cases h
theorem WL_D (B : Nat) (Y : Nat → ClassId) (M : Mem) (o : Ou) : va_D (fun q => B ≤ q) (WL B Y M o) := by
  refine ⟨fun i j p q hi hj h => ?_, fun k q h => ?_⟩
  · obtain ⟨-, rfl⟩ := WL_inv hi
    obtain ⟨-, rfl⟩ := WL_inv hj
    dsimp only at h
    omega
  · obtain ⟨-, rfl⟩ := WL_inv h
    exact Nat.le_add_right _ _
theorem ent_cg {B : Nat} {Y : Nat → ClassId} {M M' : Mem} {o o' : Ou} {k : Nat} (h : M k = M' k) (ho : k < 110 → True) (ho2 : o = o' ∨ k < 110) (hk : k < 112) : ent B Y M o k = ent B Y M' o' k := by
  have h13 : k < 110 → kd k ≠ 13 ∧ kd k < 14 := by
    intro hk1
    have : ∀ j, j < 110 → kd j ≠ 13 ∧ kd j < 14 := by decide +kernel
    exact this k hk1
  rcases ho2 with rfl | h2
  · unfold ent
    rw [h]
  · obtain ⟨a, b⟩ := h13 h2
    unfold ent
    rw [h]
    generalize kd k = z at a b
    match z, a, b with
    | 0, _, _ => rfl
    | 1, _, _ => rfl
    | 2, _, _ => rfl
    | 3, _, _ => rfl
    | 4, _, _ => rfl
    | 5, _, _ => rfl
    | 6, _, _ => rfl
    | 7, _, _ => rfl
    | 8, _, _ => rfl
    | 9, _, _ => rfl
    | 10, _, _ => rfl
    | 11, _, _ => rfl
    | 12, _, _ => rfl
    | 13, a, _ => exact absurd rfl a
    | z + 14, _, b => omega
def upM (M : Mem) (k i : Nat) (x : Int32) : Mem := fun a j => if a = k then (if j = i then x else M a j) else M a j
theorem upM_row {M : Mem} {k i : Nat} {x : Int32} : upM M k i x k = upd (M k) i x := by
  funext j
  simp [upM, upd]
theorem upM_ne {M : Mem} {k i a : Nat} {x : Int32} (h : a ≠ k) : upM M k i x a = M a := by
  funext j
  simp [upM, h]
/-- one cell of the world is written -/
theorem WL_set {B : Nat} {Y : Nat → ClassId} {M M' : Mem} {o o' : Ou} {k : Nat} {e : va_E} (hk : k < 112) (he : ent B Y M' o' k = e) (hn : ∀ a, a ≠ k → M' a = M a) (ho : o' = o ∨ 110 ≤ k ∧ ∀ a, a < 112 → 110 ≤ a → a ≠ k → ent B Y M' o' a = ent B Y M o a) : (WL B Y M o).set k (B + k, e) = WL B Y M' o' := by
  apply List.ext_getElem?
  intro j
  rw [List.getElem?_set]
  by_cases hj : k = j
  · subst hj
    rw [if_pos rfl, WL_at hk, he]
    simp [WL, hk]
  · rw [if_neg hj]
    by_cases h1 : j < 112
    · rw [WL_at h1, WL_at h1]
      congr 2
      rcases ho with rfl | ⟨h2, h3⟩
      · exact ent_cg (hn j (fun z => hj z.symm)).symm (fun _ => trivial) (Or.inl rfl) h1
      · by_cases h4 : j < 110
        · exact ent_cg (hn j (fun z => hj z.symm)).symm (fun _ => trivial) (Or.inr h4) h1
        · exact (h3 j h1 (by omega) (fun z => hj z.symm)).symm
    · rw [WL_out h1, WL_out h1]
/-! kinds of cells -/
theorem kd_lt {k : Nat} (h : kd k ≠ 99) : k < 112 := by
  by_cases hk : k < 112
  · exact hk
  · exfalso
    apply h
    have e : kdL.length = 112 := by decide +kernel
    have h0 : kdL[k]? = none := List.getElem?_eq_none (by omega)
    unfold kd
    rw [List.getD_eq_getElem?_getD, h0]
    rfl
/-- an Order -/
theorem kO {q : Nat} (h : kd q = 2) : q < 112 ∧ kd (q + 1) = 0 ∧ ln (q + 1) = 9 ∧ kd (q + 2) = 0 ∧ ln (q + 2) = 9 ∧ q + 2 < 112 ∧ 2 ≤ q := by
  have hq : q < 112 := kd_lt (by rw [h]; decide)
  have : ∀ j, j < 112 → kd j = 2 → kd (j + 1) = 0 ∧ ln (j + 1) = 9 ∧ kd (j + 2) = 0 ∧ ln (j + 2) = 9 ∧ j + 2 < 112 ∧ 2 ≤ j := by decide +kernel
  exact ⟨hq, this q hq h⟩
theorem kC {q : Nat} (h : kd q = 3) : q < 112 ∧ kd (q + 1) = 0 ∧ ln (q + 1) = 9 ∧ kd (q + 2) = 0 ∧ ln (q + 2) = 9 ∧ q + 2 < 112 := by
  have hq : q < 112 := kd_lt (by rw [h]; decide)
  have : ∀ j, j < 112 → kd j = 3 → kd (j + 1) = 0 ∧ ln (j + 1) = 9 ∧ kd (j + 2) = 0 ∧ ln (j + 2) = 9 ∧ j + 2 < 112 := by decide +kernel
  exact ⟨hq, this q hq h⟩
theorem kR {q : Nat} (h : kd q = 4) : q < 112 ∧ kd (q + 1) = 0 ∧ ln (q + 1) = 512 ∧ kd (q + 2) = 0 ∧ ln (q + 2) = 512 ∧ kd (q + 3) = 0 ∧ ln (q + 3) = 9 ∧ q + 3 < 112 := by
  have hq : q < 112 := kd_lt (by rw [h]; decide)
  have : ∀ j, j < 112 → kd j = 4 → kd (j + 1) = 0 ∧ ln (j + 1) = 512 ∧ kd (j + 2) = 0 ∧ ln (j + 2) = 512 ∧ kd (j + 3) = 0 ∧ ln (j + 3) = 9 ∧ j + 3 < 112 := by decide +kernel
  exact ⟨hq, this q hq h⟩
theorem kN {q : Nat} (h : kd q = 5) : q < 112 ∧ kd (q + 1) = 0 ∧ ln (q + 1) = 9 ∧ q + 1 < 112 := by
  have hq : q < 112 := kd_lt (by rw [h]; decide)
  have : ∀ j, j < 112 → kd j = 5 → kd (j + 1) = 0 ∧ ln (j + 1) = 9 ∧ j + 1 < 112 := by decide +kernel
  exact ⟨hq, this q hq h⟩
/-- an int array: kind and length -/
def IA (k n : Nat) : Prop := kd k = 0 ∧ ln k = n
def ZA (k : Nat) : Prop := kd k = 1
theorem ZA_ln {k : Nat} (h : ZA k) : k < 112 ∧ ln k = 9 := by
  have hq : k < 112 := kd_lt (by rw [show kd k = 1 from h]; decide)
  have : ∀ j, j < 112 → kd j = 1 → ln j = 9 := by decide +kernel
  exact ⟨hq, this k hq h⟩
theorem IA_lt {k n : Nat} (h : IA k n) : k < 112 := kd_lt (by rw [h.1]; decide)
theorem iO1 {q : Nat} (h : kd q = 2) : IA (q + 1) 9 := ⟨(kO h).2.1, (kO h).2.2.1⟩
theorem iO2 {q : Nat} (h : kd q = 2) : IA (q + 2) 9 := ⟨(kO h).2.2.2.1, (kO h).2.2.2.2.1⟩
theorem iC1 {q : Nat} (h : kd q = 3) : IA (q + 1) 9 := ⟨(kC h).2.1, (kC h).2.2.1⟩
theorem iC2 {q : Nat} (h : kd q = 3) : IA (q + 2) 9 := ⟨(kC h).2.2.2.1, (kC h).2.2.2.2.1⟩
theorem iR1 {q : Nat} (h : kd q = 4) : IA (q + 1) 512 := ⟨(kR h).2.1, (kR h).2.2.1⟩
theorem iR2 {q : Nat} (h : kd q = 4) : IA (q + 2) 512 := ⟨(kR h).2.2.2.1, (kR h).2.2.2.2.1⟩
theorem iR3 {q : Nat} (h : kd q = 4) : IA (q + 3) 9 := ⟨(kR h).2.2.2.2.2.1, (kR h).2.2.2.2.2.2.1⟩
theorem iN1 {q : Nat} (h : kd q = 5) : IA (q + 1) 9 := ⟨(kN h).2.1, (kN h).2.2.1⟩
/-- Order number i of the object -/
theorem kOrd {j : Nat} (h : j < 4) : kd (2 + 3 * j) = 2 := by
  have : ∀ i, i < 4 → kd (2 + 3 * i) = 2 := by decide +kernel
  exact this j h
theorem iVal {j : Nat} (h : j < 5) : IA (50 + j) 9 := by
  have : ∀ i, i < 5 → kd (50 + i) = 0 ∧ ln (50 + i) = 9 := by decide +kernel
  exact this j h
theorem kBel {j : Nat} (h : j < 5) : kd (56 + 10 * j) = 12 := by
  have : ∀ i, i < 5 → kd (56 + 10 * i) = 12 := by decide +kernel
  exact this j h
theorem kRow {q j : Nat} (h : kd q = 12) (hj : j < 9) : ZA (q + 1 + j) := by
  have hq : q < 112 := kd_lt (by rw [h]; decide)
  have : ∀ k, k < 112 → kd k = 12 → ∀ i, i < 9 → kd (k + 1 + i) = 1 := by decide +kernel
  exact this q hq h j hj
/-! ===== the pure words of the functions ===== -/
def inb (i : Int32) (n : Nat) : Bool := !(decide (i < 0)) && decide (i.toNatClampNeg < n)
theorem inb_in {i : Int32} {n : Nat} (h : inb i n = true) : vp_in i n := by
  simp only [inb, Bool.and_eq_true, Bool.not_eq_true', decide_eq_false_iff_not, decide_eq_true_eq] at h
  rintro (q | q)
  · exact h.1 q
  · omega
theorem inb_lt {i : Int32} {n : Nat} (h : inb i n = true) : i.toNatClampNeg < n := by
  simp only [inb, Bool.and_eq_true, decide_eq_true_eq] at h
  exact h.2
def chk {α : Type} (b : Bool) (x : Option α) : Option α := match b with
  | true => x
  | false => none
theorem chk_t {α : Type} {x : Option α} : chk true x = x := rfl
theorem chk_of {α : Type} {b : Bool} {x : Option α} (h : b = true) : chk b x = x := by rw [h]; rfl
theorem chk_i {α : Type} {b : Bool} {x : Option α} {r : α} (h : chk b x = some r) : b = true ∧ x = some r := by
  cases b
  · cases h
  · exact ⟨rfl, h⟩
def bd {α β : Type} (x : Option α) (g : α → Option β) : Option β := match x with
  | some a => g a
  | none => none
theorem bd_some {α β : Type} (a : α) (g : α → Option β) : bd (some a) g = g a := rfl
theorem bd_of {α β : Type} {x : Option α} {a : α} {g : α → Option β} (h : x = some a) : bd x g = g a := by rw [h]; rfl
theorem bd_i {α β : Type} {x : Option α} {g : α → Option β} {r : β} (h : bd x g = some r) : ∃ a, x = some a ∧ g a = some r := by
  cases x with
  | none => cases h
  | some a => exact ⟨a, rfl, h⟩
def lp {σ ρ : Type} (g : (σ → Option ρ) → σ → Option ρ) : Nat → σ → Option ρ
  | 0, _ => none
  | n + 1, a => g (lp g n) a
theorem lp_0 {σ ρ : Type} (g : (σ → Option ρ) → σ → Option ρ) (a : σ) : lp g 0 a = none := rfl
theorem lp_s {σ ρ : Type} (g : (σ → Option ρ) → σ → Option ρ) (n : Nat) (a : σ) : lp g (n + 1) a = g (lp g n) a := rfl
def isb (x : Int32) : Bool := decide (x = 0) || decide (x = 1)
theorem isb_or {x : Int32} (h : isb x = true) : x = 0 ∨ x = 1 := by
  simpa [isb] using h
theorem isb_nz {x : Int32} (h : isb x = true) : narrow .boolean (.int x) = .int x := by
  rcases isb_or h with rfl | rfl <;> decide +kernel
theorem isb_vn {x : Int32} (h : isb x = true) : vp_nar .boolean x = x := by
  rcases isb_or h with rfl | rfl <;> decide +kernel
def ush (x y : Int32) : Int32 := (x.toUInt32 >>> (y.toUInt32 &&& Int32.toUInt32 31)).toInt32
theorem inX0 : ∀ w ∈ u_ws RX0 TX0 2, w ∈ Tz := fun w hw => (List.forall_mem_cons.mpr ⟨Tz_mem (tz1 (List.mem_of_getElem? (i := 62) rfl)) rfl, List.forall_mem_cons.mpr ⟨Tz_mem (tz1 (List.mem_of_getElem? (i := 64) rfl)) rfl, List.forall_mem_nil _⟩⟩ : ∀ w ∈ [Cond.laysFinal RX0 "Belowhouse$Chains" "ahead" "[I", Cond.laysFinal RX0 "Belowhouse$Chains" "searched" "[I"], w ∈ Tz) w hw
theorem inX2 : ∀ w ∈ u_ws RX2 TX2 1, w ∈ Tz := fun w hw => (List.forall_mem_cons.mpr ⟨Tz_mem (tz1 (List.mem_of_getElem? (i := 91) rfl)) rfl, List.forall_mem_nil _⟩ : ∀ w ∈ [Cond.laysFinal RX2 "Belowhouse$Numbers" "ofHigh" "[I"], w ∈ Tz) w hw
theorem inX3 : ∀ w ∈ u_ws RX3 TX3 3, w ∈ Tz := fun w hw => (List.forall_mem_cons.mpr ⟨Tz_mem (tz1 (List.mem_of_getElem? (i := 46) rfl)) rfl, List.forall_mem_cons.mpr ⟨Tz_mem (tz1 (List.mem_of_getElem? (i := 48) rfl)) rfl, List.forall_mem_cons.mpr ⟨Tz_mem (tz1 (List.mem_of_getElem? (i := 50) rfl)) rfl, List.forall_mem_nil _⟩⟩⟩ : ∀ w ∈ [Cond.lays RX3 "Belowhouse$Order" "count" "I", Cond.laysFinal RX3 "Belowhouse$Order" "below" "[I", Cond.laysFinal RX3 "Belowhouse$Order" "values" "[I"], w ∈ Tz) w hw
theorem inX4 : ∀ w ∈ u_ws RX4 TX4 3, w ∈ Tz := fun w hw => (List.forall_mem_cons.mpr ⟨Tz_mem (tz1 (List.mem_of_getElem? (i := 77) rfl)) rfl, List.forall_mem_cons.mpr ⟨Tz_mem (tz1 (List.mem_of_getElem? (i := 79) rfl)) rfl, List.forall_mem_cons.mpr ⟨Tz_mem (tz1 (List.mem_of_getElem? (i := 81) rfl)) rfl, List.forall_mem_nil _⟩⟩⟩ : ∀ w ∈ [Cond.laysFinal RX4 "Belowhouse$RowTable" "waysTo" "[I", Cond.laysFinal RX4 "Belowhouse$RowTable" "waysOn" "[I", Cond.laysFinal RX4 "Belowhouse$RowTable" "line" "[I"], w ∈ Tz) w hw
theorem inX5 : ∀ w ∈ u_ws RX5 TX5 7, w ∈ Tz := fun w hw => (List.forall_mem_cons.mpr ⟨Tz_mem (tz1 (List.mem_of_getElem? (i := 115) rfl)) rfl, List.forall_mem_cons.mpr ⟨Tz_mem (tz1 (List.mem_of_getElem? (i := 117) rfl)) rfl, List.forall_mem_cons.mpr ⟨Tz_mem (tz1 (List.mem_of_getElem? (i := 119) rfl)) rfl, List.forall_mem_cons.mpr ⟨Tz_mem (tz1 (List.mem_of_getElem? (i := 121) rfl)) rfl, List.forall_mem_cons.mpr ⟨Tz_mem (tz1 (List.mem_of_getElem? (i := 123) rfl)) rfl, List.forall_mem_cons.mpr ⟨Tz_mem (tz1 (List.mem_of_getElem? (i := 125) rfl)) rfl, List.forall_mem_cons.mpr ⟨Tz_mem (tz1 (List.mem_of_getElem? (i := 127) rfl)) rfl, List.forall_mem_nil _⟩⟩⟩⟩⟩⟩⟩ : ∀ w ∈ [Cond.laysFinal RX5 "Belowhouse$Theorem" "tried" "LBelowhouse$Order;", Cond.laysFinal RX5 "Belowhouse$Theorem" "turned" "LBelowhouse$Order;", Cond.laysFinal RX5 "Belowhouse$Theorem" "table" "LBelowhouse$RowTable;", Cond.laysFinal RX5 "Belowhouse$Theorem" "triedTable" "LBelowhouse$RowTable;", Cond.laysFinal RX5 "Belowhouse$Theorem" "chains" "LBelowhouse$Chains;", Cond.laysFinal RX5 "Belowhouse$Theorem" "numbers" "LBelowhouse$Numbers;", Cond.laysFinal RX5 "Belowhouse$Theorem" "sizes" "[I"], w ∈ Tz) w hw
theorem inX6 : ∀ w ∈ u_ws RX6 TX6 6, w ∈ Tz := fun w hw => (List.forall_mem_cons.mpr ⟨Tz_mem (tz1 (List.mem_of_getElem? (i := 136) rfl)) rfl, List.forall_mem_cons.mpr ⟨Tz_mem (tz1 (List.mem_of_getElem? (i := 138) rfl)) rfl, List.forall_mem_cons.mpr ⟨Tz_mem (tz1 (List.mem_of_getElem? (i := 140) rfl)) rfl, List.forall_mem_cons.mpr ⟨Tz_mem (tz1 (List.mem_of_getElem? (i := 142) rfl)) rfl, List.forall_mem_cons.mpr ⟨Tz_mem (tz1 (List.mem_of_getElem? (i := 144) rfl)) rfl, List.forall_mem_cons.mpr ⟨Tz_mem (tz1 (List.mem_of_getElem? (i := 146) rfl)) rfl, List.forall_mem_nil _⟩⟩⟩⟩⟩⟩ : ∀ w ∈ [Cond.laysFinal RX6 "Belowhouse" "orders" "[LBelowhouse$Order;", Cond.laysFinal RX6 "Belowhouse" "made" "LBelowhouse$Order;", Cond.laysFinal RX6 "Belowhouse" "chains" "LBelowhouse$Chains;", Cond.laysFinal RX6 "Belowhouse" "table" "LBelowhouse$RowTable;", Cond.laysFinal RX6 "Belowhouse" "numbers" "LBelowhouse$Numbers;", Cond.laysFinal RX6 "Belowhouse" "theorem" "LBelowhouse$Theorem;"], w ∈ Tz) w hw
theorem inX7 : ∀ w ∈ u_ws RX7 TX7 8, w ∈ Tz := fun w hw => (List.forall_mem_cons.mpr ⟨Tz_mem (tz5 (List.mem_of_getElem? (i := 138) rfl)) rfl, List.forall_mem_cons.mpr ⟨Tz_mem (tz5 (List.mem_of_getElem? (i := 140) rfl)) rfl, List.forall_mem_cons.mpr ⟨Tz_mem (tz5 (List.mem_of_getElem? (i := 142) rfl)) rfl, List.forall_mem_cons.mpr ⟨Tz_mem (tz5 (List.mem_of_getElem? (i := 144) rfl)) rfl, List.forall_mem_cons.mpr ⟨Tz_mem (tz5 (List.mem_of_getElem? (i := 146) rfl)) rfl, List.forall_mem_cons.mpr ⟨Tz_mem (tz5 (List.mem_of_getElem? (i := 148) rfl)) rfl, List.forall_mem_cons.mpr ⟨Tz_mem (tz5 (List.mem_of_getElem? (i := 150) rfl)) rfl, List.forall_mem_cons.mpr ⟨Tz_mem (tz5 (List.mem_of_getElem? (i := 152) rfl)) rfl, List.forall_mem_nil _⟩⟩⟩⟩⟩⟩⟩⟩ : ∀ w ∈ [Cond.laysFinal RX7 "BelowhouseModel" "things" "[I", Cond.laysFinal RX7 "BelowhouseModel" "values" "[[I", Cond.laysFinal RX7 "BelowhouseModel" "below" "[[[Z", Cond.lays RX7 "BelowhouseModel" "code" "I", Cond.laysFinal RX7 "BelowhouseModel" "ways" "[I", Cond.laysFinal RX7 "BelowhouseModel" "parts" "[I", Cond.laysFinal RX7 "BelowhouseModel" "line" "[I", Cond.laysFinal RX7 "BelowhouseModel" "lows" "[I"], w ∈ Tz) w hw
end
section
theorem ent0 {B : Nat} {Y : Nat → ClassId} {M : Mem} {o : Ou} {k : Nat} (h : kd k = 0) : ent B Y M o k = .inl (Y 0, ln k, .inl (M k)) := by simp only [ent, h]
theorem ent1 {B : Nat} {Y : Nat → ClassId} {M : Mem} {o : Ou} {k : Nat} (h : kd k = 1) : ent B Y M o k = .inl (Y 1, ln k, .inl (M k)) := by simp only [ent, h]
theorem ent2 {B : Nat} {Y : Nat → ClassId} {M : Mem} {o : Ou} {k : Nat} (h : kd k = 2) : ent B Y M o k = .inr (2, [.int (M k 0), .ref (B + (k + 1)), .ref (B + (k + 2))]) := by simp only [ent, h]
theorem ent3 {B : Nat} {Y : Nat → ClassId} {M : Mem} {o : Ou} {k : Nat} (h : kd k = 3) : ent B Y M o k = .inr (0, [.ref (B + (k + 1)), .ref (B + (k + 2))]) := by simp only [ent, h]
theorem ent4 {B : Nat} {Y : Nat → ClassId} {M : Mem} {o : Ou} {k : Nat} (h : kd k = 4) : ent B Y M o k = .inr (3, [.ref (B + (k + 1)), .ref (B + (k + 2)), .ref (B + (k + 3))]) := by simp only [ent, h]
theorem ent5 {B : Nat} {Y : Nat → ClassId} {M : Mem} {o : Ou} {k : Nat} (h : kd k = 5) : ent B Y M o k = .inr (1, [.ref (B + (k + 1))]) := by simp only [ent, h]
theorem ent12 {B : Nat} {Y : Nat → ClassId} {M : Mem} {o : Ou} {k : Nat} (h : kd k = 12) : ent B Y M o k = .inl (Y 5, 9, .inr (.inr (.inr (.inr (fun j => some (B + (k + 1 + j))))))) := by simp only [ent, h]
/-- the component types of the array classes -/
def tyY : List FieldType := [.int, .boolean, .object "Belowhouse$Order", .array .int, .array (.array .boolean), .array .boolean, .long, .double]
def KY (Y : Nat → ClassId) (U : State) : Prop := ∀ (k : Nat) (ty : FieldType), tyY[k]? = some ty → ArrOfT U (Y k) ty
theorem KY.moved {Y : Nat → ClassId} {u U : State} (hvm : u.vm.Alike U.vm) (h : KY Y u) : KY Y U := fun k ty hk => arrOfT_moved hvm (h k ty hk)
/-- what a method's body stands on -/
def Cx (p : Program) (s : State) (m : MethodId) (args : Array Value) (c : Code) (cc : ByteArray) (nL : Nat) (own : String) (B : Nat) (D : va_G) (Y : Nat → ClassId) : Prop :=
  p.tables.exec = Jvm.exec ∧ c.code = cc ∧ c.maxLocals = nL ∧ s.vm.findClass own = some m.cls ∧ TB s ∧ va_K D vwCl [] s ∧ KY Y s ∧ B ≤ s.heap.size
/-- from every heap that holds the memory M: a run from pc, with these locals and this stack, comes to Q -/
def At (p : Program) (l : Launch) (e : Env) (R : Room) (s : State) (m : MethodId) (args : Array Value) (below : List Frame) (meth : Method) (c : Code) (nL cells slots : Nat) (Q : State → Prop) (B : Nat) (D : va_G) (Y : Nat → ClassId) (o : Ou) (pc : Nat) (M : Mem) (L : List (Nat × Value)) (st : List Value) : Prop :=
  ∀ (H : Heap) (locs : List Loc) (ls : Array Slot), va_P D vwCl (WL B Y M o) H → va_S (fun q => B ≤ q) s.heap H locs → lv_has ls nL L → W p l e R s m args below meth c H locs cells slots Q (F0 m pc ls st)
/-- what holds where a method begins -/
def Inv (B : Nat) (D : va_G) (Y : Nat → ClassId) (M : Mem) (o : Ou) (U : State) : Prop := TB U ∧ va_K D vwCl [] U ∧ KY Y U ∧ va_P D vwCl (WL B Y M o) U.heap
/-- what holds where it has returned v -/
def PQ (B : Nat) (D : va_G) (Y : Nat → ClassId) (M : Mem) (o : Ou) (v : Option Value) : Array Value → State → Outcome → State → Prop := fun _ st oc t => oc = .returned v ∧ va_P D vwCl (WL B Y M o) t.heap ∧ va_F (fun q => B ≤ q) st t
theorem va_P.hi {D : va_G} {B : Nat} {Y : Nat → ClassId} {M : Mem} {o : Ou} {H : Heap} (h : va_P D vwCl (WL B Y M o) H) : B + 111 < H.size := (h 111 _ (WL_at (by decide))).lt
abbrev MW (l : Launch) (y : MethodName) (cc : ByteArray) (nL : Nat) (ret : Option FieldType) (rm : Room) (B : Nat) (D : va_G) (Y : Nat → ClassId) (o : Ou) (A : List Value) (M : Mem) (M' : Mem) (v : Option Value) : Prop :=
  Met l y [Cond.code y cc nL ret] rm (va_Pc A (Inv B D Y M o)) (PQ B D Y M' o v) 0 0 (fun q => B ≤ q)
section ATS
variable {p : Program} {l : Launch} {e : Env} {R : Room} {s : State} {m : MethodId} {args : Array Value} {below : List Frame} {meth : Method} {c : Code} {nL cells slots : Nat} {Q : State → Prop} {B : Nat} {D : va_G} {Y : Nat → ClassId} {o : Ou} {pc : Nat} {M : Mem} {L L' : List (Nat × Value)} {rest : List Value} {cc : ByteArray} {own : String}
/-- a method out of its body -/
theorem ofAt {y : MethodName} {ret : Option FieldType} {rm : Room} {A : List Value} {Qc : Array Value → State → Outcome → State → Prop} {mc ms : Nat} {L0 : List (Nat × Value)} (hy : plainName y.cls = true) (hA : (lg_sl A).length ≤ nL) (hL : lv_args 0 A = L0)
    (body : ∀ (p : Program) (e : Env) (s : State) (m : MethodId) (args : Array Value) (below : List Frame) (meth : Method) (c : Code), Cx p s m args c cc nL y.cls B D Y → meth.sig.returnType = ret → meth.locks = false → At p l e rm s m args below meth c nL 0 0 (MQ below Qc args s mc ms (fun q => B ≤ q)) B D Y o 0 M L0 []) :
    Met l y [Cond.code y cc nL ret] rm (va_Pc A (Inv B D Y M o)) Qc mc ms (fun q => B ≤ q) := by
  refine Met.ofW (cc := cc) (maxL := nL) (ret := ret) hy rfl ?_
  intro p e s m args below meth c s₁ B0 hml hv
  obtain ⟨rfl, hT, hK, hY, hP⟩ := hv
  have hown : s.vm.findClass y.cls = some m.cls := findClass_of_methodNamed B0.named
  have hB := hP.hi
  have hl := lv_entry A (n := nL) hA
  rw [lg_entry_eq]
  exact body p e s m _ below meth c ⟨B0.exec, B0.bytes, hml, hown, hT, hK, hY, by omega⟩ B0.returns B0.notSynchronized s.heap [] _ hP va_S.rf (hL ▸ hl)
/-! instructions that touch the stack and the locals alone -/
theorem A_iconst (C : Cx p s m args c cc nL own B D Y) {z : Int} {v : Int32} (hv : Int32.ofInt z = v) (hd : decode cc pc = .ok (.iconst z, 1)) (k : At p l e R s m args below meth c nL cells slots Q B D Y o (pc + 1) M L (.int v :: rest)) : At p l e R s m args below meth c nL cells slots Q B D Y o pc M L rest := fun H locs ls hP hS hl => lv_iconst C.1 C.2.1 hd hv (k H locs ls hP hS hl)
theorem A_bipush (C : Cx p s m args c cc nL own B D Y) {z : Int} {v : Int32} (hv : (Int8.ofInt z).toInt32 = v) (hd : decode cc pc = .ok (.bipush z, 2)) (k : At p l e R s m args below meth c nL cells slots Q B D Y o (pc + 2) M L (.int v :: rest)) : At p l e R s m args below meth c nL cells slots Q B D Y o pc M L rest := fun H locs ls hP hS hl => lv_bipush C.1 C.2.1 hd hv (k H locs ls hP hS hl)
theorem A_sipush (C : Cx p s m args c cc nL own B D Y) {z : Int} {v : Int32} (hv : (Int16.ofInt z).toInt32 = v) (hd : decode cc pc = .ok (.sipush z, 3)) (k : At p l e R s m args below meth c nL cells slots Q B D Y o (pc + 3) M L (.int v :: rest)) : At p l e R s m args below meth c nL cells slots Q B D Y o pc M L rest := fun H locs ls hP hS hl => lv_sipush C.1 C.2.1 hd hv (k H locs ls hP hS hl)
theorem A_lconst (C : Cx p s m args c cc nL own B D Y) {z : Fin 2} {v : Int64} (hv : Int64.ofNat (z : Nat) = v) (hd : decode cc pc = .ok (.lconst z, 1)) (k : At p l e R s m args below meth c nL cells slots Q B D Y o (pc + 1) M L (.long v :: rest)) : At p l e R s m args below meth c nL cells slots Q B D Y o pc M L rest := fun H locs ls hP hS hl => lv_lconst C.1 C.2.1 hd hv (k H locs ls hP hS hl)
theorem A_dconst0 (C : Cx p s m args c cc nL own B D Y)  (hd : decode cc pc = .ok (.dconst 0, 1)) (k : At p l e R s m args below meth c nL cells slots Q B D Y o (pc + 1) M L (.double 0 :: rest)) : At p l e R s m args below meth c nL cells slots Q B D Y o pc M L rest := fun H locs ls hP hS hl => lv_dconst0 C.1 C.2.1 hd (k H locs ls hP hS hl)
theorem A_fconst0 (C : Cx p s m args c cc nL own B D Y)  (hd : decode cc pc = .ok (.fconst 0, 1)) (k : At p l e R s m args below meth c nL cells slots Q B D Y o (pc + 1) M L (.float 0 :: rest)) : At p l e R s m args below meth c nL cells slots Q B D Y o pc M L rest := fun H locs ls hP hS hl => lv_fconst0 C.1 C.2.1 hd (k H locs ls hP hS hl)
theorem A_iload_n (C : Cx p s m args c cc nL own B D Y) {j : Fin 4} {x : Int32} (k0 : Nat) (hk : L[k0]? = some ((j : Nat), .int x)) (hd : decode cc pc = .ok (.iload_n j, 1)) (k : At p l e R s m args below meth c nL cells slots Q B D Y o (pc + 1) M L (.int x :: rest)) : At p l e R s m args below meth c nL cells slots Q B D Y o pc M L rest := fun H locs ls hP hS hl => lv_iload_n C.1 C.2.1 hd rfl (lv_at hl k0 hk) (k H locs ls hP hS hl)
theorem A_iload (C : Cx p s m args c cc nL own B D Y) {j : Nat} {x : Int32} (k0 : Nat) (hk : L[k0]? = some (j, .int x)) (hd : decode cc pc = .ok (.iload j, 2)) (k : At p l e R s m args below meth c nL cells slots Q B D Y o (pc + 2) M L (.int x :: rest)) : At p l e R s m args below meth c nL cells slots Q B D Y o pc M L rest := fun H locs ls hP hS hl => lv_iload C.1 C.2.1 hd (lv_at hl k0 hk) (k H locs ls hP hS hl)
theorem A_istore_n (C : Cx p s m args c cc nL own B D Y) {j : Fin 4} {i : Nat} {x : Int32} (L' : List (Nat × Value)) (hi : (j : Nat) = i) (hn : i < nL) (ks : List Nat) (hl2 : lv_pick ((i, Value.int x) :: L.filter (fun q => !(q.1 == i) && !(q.1 + 1 == i && q.2.category == 2))) ks = L') (hd : decode cc pc = .ok (.istore_n j, 1)) (k : At p l e R s m args below meth c nL cells slots Q B D Y o (pc + 1) M L' rest) : At p l e R s m args below meth c nL cells slots Q B D Y o pc M L (.int x :: rest) := fun H locs ls hP hS hl => lv_istore_n C.1 C.2.1 hd hi hl hn rfl (fun ls hl => k H locs ls hP hS (lv_sub hl ks hl2))
theorem A_istore (C : Cx p s m args c cc nL own B D Y) {i : Nat} {x : Int32} (L' : List (Nat × Value)) (hn : i < nL) (ks : List Nat) (hl2 : lv_pick ((i, Value.int x) :: L.filter (fun q => !(q.1 == i) && !(q.1 + 1 == i && q.2.category == 2))) ks = L') (hd : decode cc pc = .ok (.istore i, 2)) (k : At p l e R s m args below meth c nL cells slots Q B D Y o (pc + 2) M L' rest) : At p l e R s m args below meth c nL cells slots Q B D Y o pc M L (.int x :: rest) := fun H locs ls hP hS hl => lv_istore C.1 C.2.1 hd hl hn rfl (fun ls hl => k H locs ls hP hS (lv_sub hl ks hl2))
theorem A_lload_n (C : Cx p s m args c cc nL own B D Y) {j : Fin 4} {x : Int64} (k0 : Nat) (hk : L[k0]? = some ((j : Nat), .long x)) (hd : decode cc pc = .ok (.lload_n j, 1)) (k : At p l e R s m args below meth c nL cells slots Q B D Y o (pc + 1) M L (.long x :: rest)) : At p l e R s m args below meth c nL cells slots Q B D Y o pc M L rest := fun H locs ls hP hS hl => lv_lload_n C.1 C.2.1 hd rfl (lv_at hl k0 hk) (k H locs ls hP hS hl)
theorem A_lload (C : Cx p s m args c cc nL own B D Y) {j : Nat} {x : Int64} (k0 : Nat) (hk : L[k0]? = some (j, .long x)) (hd : decode cc pc = .ok (.lload j, 2)) (k : At p l e R s m args below meth c nL cells slots Q B D Y o (pc + 2) M L (.long x :: rest)) : At p l e R s m args below meth c nL cells slots Q B D Y o pc M L rest := fun H locs ls hP hS hl => lv_lload C.1 C.2.1 hd (lv_at hl k0 hk) (k H locs ls hP hS hl)
theorem A_lstore_n (C : Cx p s m args c cc nL own B D Y) {j : Fin 4} {i : Nat} {x : Int64} (L' : List (Nat × Value)) (hi : (j : Nat) = i) (hn : i + 1 < nL) (ks : List Nat) (hl2 : lv_pick ((i, Value.long x) :: L.filter (fun q => !(q.1 == i) && (!(q.1 == i + 1) && !(q.1 + 1 == i && q.2.category == 2)))) ks = L') (hd : decode cc pc = .ok (.lstore_n j, 1)) (k : At p l e R s m args below meth c nL cells slots Q B D Y o (pc + 1) M L' rest) : At p l e R s m args below meth c nL cells slots Q B D Y o pc M L (.long x :: rest) := fun H locs ls hP hS hl => lv_lstore_n C.1 C.2.1 hd hi hl hn rfl (fun ls hl => k H locs ls hP hS (lv_sub hl ks hl2))
theorem A_lstore (C : Cx p s m args c cc nL own B D Y) {i : Nat} {x : Int64} (L' : List (Nat × Value)) (hn : i + 1 < nL) (ks : List Nat) (hl2 : lv_pick ((i, Value.long x) :: L.filter (fun q => !(q.1 == i) && (!(q.1 == i + 1) && !(q.1 + 1 == i && q.2.category == 2)))) ks = L') (hd : decode cc pc = .ok (.lstore i, 2)) (k : At p l e R s m args below meth c nL cells slots Q B D Y o (pc + 2) M L' rest) : At p l e R s m args below meth c nL cells slots Q B D Y o pc M L (.long x :: rest) := fun H locs ls hP hS hl => lv_lstore C.1 C.2.1 hd hl hn rfl (fun ls hl => k H locs ls hP hS (lv_sub hl ks hl2))
theorem A_aload_n (C : Cx p s m args c cc nL own B D Y) {j : Fin 4} {x : Nat} (k0 : Nat) (hk : L[k0]? = some ((j : Nat), .ref x)) (hd : decode cc pc = .ok (.aload_n j, 1)) (k : At p l e R s m args below meth c nL cells slots Q B D Y o (pc + 1) M L (.ref x :: rest)) : At p l e R s m args below meth c nL cells slots Q B D Y o pc M L rest := fun H locs ls hP hS hl => lv_aload_n C.1 C.2.1 hd rfl (lv_at hl k0 hk) (k H locs ls hP hS hl)
theorem A_aload (C : Cx p s m args c cc nL own B D Y) {j : Nat} {x : Nat} (k0 : Nat) (hk : L[k0]? = some (j, .ref x)) (hd : decode cc pc = .ok (.aload j, 2)) (k : At p l e R s m args below meth c nL cells slots Q B D Y o (pc + 2) M L (.ref x :: rest)) : At p l e R s m args below meth c nL cells slots Q B D Y o pc M L rest := fun H locs ls hP hS hl => lv_aload C.1 C.2.1 hd (lv_at hl k0 hk) (k H locs ls hP hS hl)
theorem A_astore_n (C : Cx p s m args c cc nL own B D Y) {j : Fin 4} {i : Nat} {x : Nat} (L' : List (Nat × Value)) (hi : (j : Nat) = i) (hn : i < nL) (ks : List Nat) (hl2 : lv_pick ((i, Value.ref x) :: L.filter (fun q => !(q.1 == i) && !(q.1 + 1 == i && q.2.category == 2))) ks = L') (hd : decode cc pc = .ok (.astore_n j, 1)) (k : At p l e R s m args below meth c nL cells slots Q B D Y o (pc + 1) M L' rest) : At p l e R s m args below meth c nL cells slots Q B D Y o pc M L (.ref x :: rest) := fun H locs ls hP hS hl => lv_astore_n C.1 C.2.1 hd hi hl hn rfl (fun ls hl => k H locs ls hP hS (lv_sub hl ks hl2))
theorem A_astore (C : Cx p s m args c cc nL own B D Y) {i : Nat} {x : Nat} (L' : List (Nat × Value)) (hn : i < nL) (ks : List Nat) (hl2 : lv_pick ((i, Value.ref x) :: L.filter (fun q => !(q.1 == i) && !(q.1 + 1 == i && q.2.category == 2))) ks = L') (hd : decode cc pc = .ok (.astore i, 2)) (k : At p l e R s m args below meth c nL cells slots Q B D Y o (pc + 2) M L' rest) : At p l e R s m args below meth c nL cells slots Q B D Y o pc M L (.ref x :: rest) := fun H locs ls hP hS hl => lv_astore C.1 C.2.1 hd hl hn rfl (fun ls hl => k H locs ls hP hS (lv_sub hl ks hl2))
theorem A_dload_n (C : Cx p s m args c cc nL own B D Y) {j : Fin 4} {x : UInt64} (k0 : Nat) (hk : L[k0]? = some ((j : Nat), .double x)) (hd : decode cc pc = .ok (.dload_n j, 1)) (k : At p l e R s m args below meth c nL cells slots Q B D Y o (pc + 1) M L (.double x :: rest)) : At p l e R s m args below meth c nL cells slots Q B D Y o pc M L rest := fun H locs ls hP hS hl => lv_dload_n C.1 C.2.1 hd rfl (lv_at hl k0 hk) (k H locs ls hP hS hl)
theorem A_dload (C : Cx p s m args c cc nL own B D Y) {j : Nat} {x : UInt64} (k0 : Nat) (hk : L[k0]? = some (j, .double x)) (hd : decode cc pc = .ok (.dload j, 2)) (k : At p l e R s m args below meth c nL cells slots Q B D Y o (pc + 2) M L (.double x :: rest)) : At p l e R s m args below meth c nL cells slots Q B D Y o pc M L rest := fun H locs ls hP hS hl => lv_dload C.1 C.2.1 hd (lv_at hl k0 hk) (k H locs ls hP hS hl)
theorem A_dstore_n (C : Cx p s m args c cc nL own B D Y) {j : Fin 4} {i : Nat} {x : UInt64} (L' : List (Nat × Value)) (hi : (j : Nat) = i) (hn : i + 1 < nL) (ks : List Nat) (hl2 : lv_pick ((i, Value.double x) :: L.filter (fun q => !(q.1 == i) && (!(q.1 == i + 1) && !(q.1 + 1 == i && q.2.category == 2)))) ks = L') (hd : decode cc pc = .ok (.dstore_n j, 1)) (k : At p l e R s m args below meth c nL cells slots Q B D Y o (pc + 1) M L' rest) : At p l e R s m args below meth c nL cells slots Q B D Y o pc M L (.double x :: rest) := fun H locs ls hP hS hl => lv_dstore_n C.1 C.2.1 hd hi hl hn rfl (fun ls hl => k H locs ls hP hS (lv_sub hl ks hl2))
theorem A_dstore (C : Cx p s m args c cc nL own B D Y) {i : Nat} {x : UInt64} (L' : List (Nat × Value)) (hn : i + 1 < nL) (ks : List Nat) (hl2 : lv_pick ((i, Value.double x) :: L.filter (fun q => !(q.1 == i) && (!(q.1 == i + 1) && !(q.1 + 1 == i && q.2.category == 2)))) ks = L') (hd : decode cc pc = .ok (.dstore i, 2)) (k : At p l e R s m args below meth c nL cells slots Q B D Y o (pc + 2) M L' rest) : At p l e R s m args below meth c nL cells slots Q B D Y o pc M L (.double x :: rest) := fun H locs ls hP hS hl => lv_dstore C.1 C.2.1 hd hl hn rfl (fun ls hl => k H locs ls hP hS (lv_sub hl ks hl2))
theorem A_fload_n (C : Cx p s m args c cc nL own B D Y) {j : Fin 4} {x : UInt32} (k0 : Nat) (hk : L[k0]? = some ((j : Nat), .float x)) (hd : decode cc pc = .ok (.fload_n j, 1)) (k : At p l e R s m args below meth c nL cells slots Q B D Y o (pc + 1) M L (.float x :: rest)) : At p l e R s m args below meth c nL cells slots Q B D Y o pc M L rest := fun H locs ls hP hS hl => lv_fload_n C.1 C.2.1 hd rfl (lv_at hl k0 hk) (k H locs ls hP hS hl)
theorem A_fload (C : Cx p s m args c cc nL own B D Y) {j : Nat} {x : UInt32} (k0 : Nat) (hk : L[k0]? = some (j, .float x)) (hd : decode cc pc = .ok (.fload j, 2)) (k : At p l e R s m args below meth c nL cells slots Q B D Y o (pc + 2) M L (.float x :: rest)) : At p l e R s m args below meth c nL cells slots Q B D Y o pc M L rest := fun H locs ls hP hS hl => lv_fload C.1 C.2.1 hd (lv_at hl k0 hk) (k H locs ls hP hS hl)
theorem A_fstore_n (C : Cx p s m args c cc nL own B D Y) {j : Fin 4} {i : Nat} {x : UInt32} (L' : List (Nat × Value)) (hi : (j : Nat) = i) (hn : i < nL) (ks : List Nat) (hl2 : lv_pick ((i, Value.float x) :: L.filter (fun q => !(q.1 == i) && !(q.1 + 1 == i && q.2.category == 2))) ks = L') (hd : decode cc pc = .ok (.fstore_n j, 1)) (k : At p l e R s m args below meth c nL cells slots Q B D Y o (pc + 1) M L' rest) : At p l e R s m args below meth c nL cells slots Q B D Y o pc M L (.float x :: rest) := fun H locs ls hP hS hl => lv_fstore_n C.1 C.2.1 hd hi hl hn rfl (fun ls hl => k H locs ls hP hS (lv_sub hl ks hl2))
theorem A_fstore (C : Cx p s m args c cc nL own B D Y) {i : Nat} {x : UInt32} (L' : List (Nat × Value)) (hn : i < nL) (ks : List Nat) (hl2 : lv_pick ((i, Value.float x) :: L.filter (fun q => !(q.1 == i) && !(q.1 + 1 == i && q.2.category == 2))) ks = L') (hd : decode cc pc = .ok (.fstore i, 2)) (k : At p l e R s m args below meth c nL cells slots Q B D Y o (pc + 2) M L' rest) : At p l e R s m args below meth c nL cells slots Q B D Y o pc M L (.float x :: rest) := fun H locs ls hP hS hl => lv_fstore C.1 C.2.1 hd hl hn rfl (fun ls hl => k H locs ls hP hS (lv_sub hl ks hl2))
theorem A_iinc (C : Cx p s m args c cc nL own B D Y) {i k0 : Nat} {z : Int} {x w : Int32} (L' : List (Nat × Value)) (hk : L[k0]? = some (i, .int x)) (hz : Int32.ofInt z = w) (hn : i < nL) (ks : List Nat) (hl2 : lv_pick ((i, Value.int (x + w)) :: L.filter (fun q => !(q.1 == i) && !(q.1 + 1 == i && q.2.category == 2))) ks = L') (hd : decode cc pc = .ok (.iinc i z, 3)) (k : At p l e R s m args below meth c nL cells slots Q B D Y o (pc + 3) M L' rest) : At p l e R s m args below meth c nL cells slots Q B D Y o pc M L rest := fun H locs ls hP hS hl => lv_iinc C.1 C.2.1 hd hl hk (by rw [hz]) hn rfl (fun ls hl => k H locs ls hP hS (lv_sub hl ks hl2))
theorem A_iadd (C : Cx p s m args c cc nL own B D Y) {x y : Int32} (hd : decode cc pc = .ok (.iadd, 1)) (k : At p l e R s m args below meth c nL cells slots Q B D Y o (pc + 1) M L (.int (x + y) :: rest)) : At p l e R s m args below meth c nL cells slots Q B D Y o pc M L (.int y :: .int x :: rest) := fun H locs ls hP hS hl => lv_iadd C.1 C.2.1 hd (k H locs ls hP hS hl)
theorem A_isub (C : Cx p s m args c cc nL own B D Y) {x y : Int32} (hd : decode cc pc = .ok (.isub, 1)) (k : At p l e R s m args below meth c nL cells slots Q B D Y o (pc + 1) M L (.int (x - y) :: rest)) : At p l e R s m args below meth c nL cells slots Q B D Y o pc M L (.int y :: .int x :: rest) := fun H locs ls hP hS hl => lv_isub C.1 C.2.1 hd (k H locs ls hP hS hl)
theorem A_imul (C : Cx p s m args c cc nL own B D Y) {x y : Int32} (hd : decode cc pc = .ok (.imul, 1)) (k : At p l e R s m args below meth c nL cells slots Q B D Y o (pc + 1) M L (.int (x * y) :: rest)) : At p l e R s m args below meth c nL cells slots Q B D Y o pc M L (.int y :: .int x :: rest) := fun H locs ls hP hS hl => lv_imul C.1 C.2.1 hd (k H locs ls hP hS hl)
theorem A_iand (C : Cx p s m args c cc nL own B D Y) {x y : Int32} (hd : decode cc pc = .ok (.iand, 1)) (k : At p l e R s m args below meth c nL cells slots Q B D Y o (pc + 1) M L (.int (x &&& y) :: rest)) : At p l e R s m args below meth c nL cells slots Q B D Y o pc M L (.int y :: .int x :: rest) := fun H locs ls hP hS hl => lv_iand C.1 C.2.1 hd (k H locs ls hP hS hl)
theorem A_ior (C : Cx p s m args c cc nL own B D Y) {x y : Int32} (hd : decode cc pc = .ok (.ior, 1)) (k : At p l e R s m args below meth c nL cells slots Q B D Y o (pc + 1) M L (.int (x ||| y) :: rest)) : At p l e R s m args below meth c nL cells slots Q B D Y o pc M L (.int y :: .int x :: rest) := fun H locs ls hP hS hl => lv_ior C.1 C.2.1 hd (k H locs ls hP hS hl)
theorem A_ixor (C : Cx p s m args c cc nL own B D Y) {x y : Int32} (hd : decode cc pc = .ok (.ixor, 1)) (k : At p l e R s m args below meth c nL cells slots Q B D Y o (pc + 1) M L (.int (x ^^^ y) :: rest)) : At p l e R s m args below meth c nL cells slots Q B D Y o pc M L (.int y :: .int x :: rest) := fun H locs ls hP hS hl => lv_ixor C.1 C.2.1 hd (k H locs ls hP hS hl)
theorem A_ladd (C : Cx p s m args c cc nL own B D Y) {x y : Int64} (hd : decode cc pc = .ok (.ladd, 1)) (k : At p l e R s m args below meth c nL cells slots Q B D Y o (pc + 1) M L (.long (x + y) :: rest)) : At p l e R s m args below meth c nL cells slots Q B D Y o pc M L (.long y :: .long x :: rest) := fun H locs ls hP hS hl => lv_ladd C.1 C.2.1 hd (k H locs ls hP hS hl)
theorem A_lmul (C : Cx p s m args c cc nL own B D Y) {x y : Int64} (hd : decode cc pc = .ok (.lmul, 1)) (k : At p l e R s m args below meth c nL cells slots Q B D Y o (pc + 1) M L (.long (x * y) :: rest)) : At p l e R s m args below meth c nL cells slots Q B D Y o pc M L (.long y :: .long x :: rest) := fun H locs ls hP hS hl => lv_lmul C.1 C.2.1 hd (k H locs ls hP hS hl)
theorem A_ineg (C : Cx p s m args c cc nL own B D Y) {x : Int32} (hd : decode cc pc = .ok (.ineg, 1)) (k : At p l e R s m args below meth c nL cells slots Q B D Y o (pc + 1) M L (.int (-x) :: rest)) : At p l e R s m args below meth c nL cells slots Q B D Y o pc M L (.int x :: rest) := fun H locs ls hP hS hl => lv_ineg C.1 C.2.1 hd (k H locs ls hP hS hl)
theorem A_idiv (C : Cx p s m args c cc nL own B D Y) {x y : Int32} (hne : ¬ y = 0) (hd : decode cc pc = .ok (.idiv, 1)) (k : At p l e R s m args below meth c nL cells slots Q B D Y o (pc + 1) M L (.int (x / y) :: rest)) : At p l e R s m args below meth c nL cells slots Q B D Y o pc M L (.int y :: .int x :: rest) := fun H locs ls hP hS hl => lv_idiv C.1 C.2.1 hd hne (k H locs ls hP hS hl)
theorem A_irem (C : Cx p s m args c cc nL own B D Y) {x y : Int32} (hne : ¬ y = 0) (hd : decode cc pc = .ok (.irem, 1)) (k : At p l e R s m args below meth c nL cells slots Q B D Y o (pc + 1) M L (.int (x - x / y * y) :: rest)) : At p l e R s m args below meth c nL cells slots Q B D Y o pc M L (.int y :: .int x :: rest) := fun H locs ls hP hS hl => lv_irem C.1 C.2.1 hd hne (k H locs ls hP hS hl)
theorem A_ishl (C : Cx p s m args c cc nL own B D Y) {x y : Int32} (hd : decode cc pc = .ok (.ishl, 1)) (k : At p l e R s m args below meth c nL cells slots Q B D Y o (pc + 1) M L (.int (x <<< (y &&& 31)) :: rest)) : At p l e R s m args below meth c nL cells slots Q B D Y o pc M L (.int y :: .int x :: rest) := fun H locs ls hP hS hl => lv_ishl C.1 C.2.1 hd (k H locs ls hP hS hl)
theorem A_ishr (C : Cx p s m args c cc nL own B D Y) {x y : Int32} (hd : decode cc pc = .ok (.ishr, 1)) (k : At p l e R s m args below meth c nL cells slots Q B D Y o (pc + 1) M L (.int (x >>> (y &&& 31)) :: rest)) : At p l e R s m args below meth c nL cells slots Q B D Y o pc M L (.int y :: .int x :: rest) := fun H locs ls hP hS hl => lv_ishr C.1 C.2.1 hd (k H locs ls hP hS hl)
theorem A_i2l (C : Cx p s m args c cc nL own B D Y) {x : Int32} (hd : decode cc pc = .ok (.i2l, 1)) (k : At p l e R s m args below meth c nL cells slots Q B D Y o (pc + 1) M L (.long x.toInt64 :: rest)) : At p l e R s m args below meth c nL cells slots Q B D Y o pc M L (.int x :: rest) := fun H locs ls hP hS hl => lv_i2l C.1 C.2.1 hd rfl (k H locs ls hP hS hl)
theorem A_i2c (C : Cx p s m args c cc nL own B D Y) {x : Int32} (hd : decode cc pc = .ok (.i2c, 1)) (k : At p l e R s m args below meth c nL cells slots Q B D Y o (pc + 1) M L (.int (x.toUInt32 % 65536).toInt32 :: rest)) : At p l e R s m args below meth c nL cells slots Q B D Y o pc M L (.int x :: rest) := fun H locs ls hP hS hl => lv_i2c C.1 C.2.1 hd rfl (k H locs ls hP hS hl)
theorem A_dup (C : Cx p s m args c cc nL own B D Y) {v : Value} (hc : v.category = 1) (hd : decode cc pc = .ok (.dup, 1)) (k : At p l e R s m args below meth c nL cells slots Q B D Y o (pc + 1) M L (v :: v :: rest)) : At p l e R s m args below meth c nL cells slots Q B D Y o pc M L (v :: rest) := fun H locs ls hP hS hl => lv_dup C.1 C.2.1 hd hc (k H locs ls hP hS hl)
theorem A_pop (C : Cx p s m args c cc nL own B D Y) {v : Value} (hc : v.category = 1) (hd : decode cc pc = .ok (.pop, 1)) (k : At p l e R s m args below meth c nL cells slots Q B D Y o (pc + 1) M L rest) : At p l e R s m args below meth c nL cells slots Q B D Y o pc M L (v :: rest) := fun H locs ls hP hS hl => lv_pop C.1 C.2.1 hd hc (k H locs ls hP hS hl)
theorem A_dup2 (C : Cx p s m args c cc nL own B D Y) {v w : Value} (hc : v.category = 1) (hc2 : w.category = 1) (hd : decode cc pc = .ok (.dup2, 1)) (k : At p l e R s m args below meth c nL cells slots Q B D Y o (pc + 1) M L (v :: w :: v :: w :: rest)) : At p l e R s m args below meth c nL cells slots Q B D Y o pc M L (v :: w :: rest) := fun H locs ls hP hS hl => lv_dup2_11 C.1 C.2.1 hd hc hc2 (k H locs ls hP hS hl)
theorem A_i2d (C : Cx p s m args c cc nL own B D Y) {x : Int32} (hd : decode cc pc = .ok (.i2d, 1)) (k : At p l e R s m args below meth c nL cells slots Q B D Y o (pc + 1) M L (.double (FP.i2d x) :: rest)) : At p l e R s m args below meth c nL cells slots Q B D Y o pc M L (.int x :: rest) := fun H locs ls hP hS hl => lv_i2d C.1 C.2.1 hd (k H locs ls hP hS hl)
theorem A_i2f (C : Cx p s m args c cc nL own B D Y) {x : Int32} (hd : decode cc pc = .ok (.i2f, 1)) (k : At p l e R s m args below meth c nL cells slots Q B D Y o (pc + 1) M L (.float (FP.i2f x) :: rest)) : At p l e R s m args below meth c nL cells slots Q B D Y o pc M L (.int x :: rest) := fun H locs ls hP hS hl => lv_i2f C.1 C.2.1 hd (k H locs ls hP hS hl)
theorem A_ddiv (C : Cx p s m args c cc nL own B D Y) {x y : UInt64} (hn : vf_n64 (FP.ddiv x y)) (hd : decode cc pc = .ok (.ddiv, 1)) (k : At p l e R s m args below meth c nL cells slots Q B D Y o (pc + 1) M L (.double (FP.ddiv x y) :: rest)) : At p l e R s m args below meth c nL cells slots Q B D Y o pc M L (.double y :: .double x :: rest) := fun H locs ls hP hS hl => lv_ddiv C.1 C.2.1 hd hn (k H locs ls hP hS hl)
theorem A_fdiv (C : Cx p s m args c cc nL own B D Y) {x y : UInt32} (hn : vf_n32 (FP.fdiv x y)) (hd : decode cc pc = .ok (.fdiv, 1)) (k : At p l e R s m args below meth c nL cells slots Q B D Y o (pc + 1) M L (.float (FP.fdiv x y) :: rest)) : At p l e R s m args below meth c nL cells slots Q B D Y o pc M L (.float y :: .float x :: rest) := fun H locs ls hP hS hl => lv_fdiv C.1 C.2.1 hd hn (k H locs ls hP hS hl)
theorem A_f2d (C : Cx p s m args c cc nL own B D Y) {x : UInt32} (hn : vf_n64 (FP.f2d x)) (hd : decode cc pc = .ok (.f2d, 1)) (k : At p l e R s m args below meth c nL cells slots Q B D Y o (pc + 1) M L (.double (FP.f2d x) :: rest)) : At p l e R s m args below meth c nL cells slots Q B D Y o pc M L (.float x :: rest) := fun H locs ls hP hS hl => lv_f2d C.1 C.2.1 hd hn (k H locs ls hP hS hl)
theorem A_icmp_eq (C : Cx p s m args c cc nL own B D Y) {x y : Int32} {off : Int} (tgt : Nat) (ht : (pc : Int) + off = (tgt : Int)) (hd : decode cc pc = .ok (.if_icmp .eq off, 3)) {α : Type} {X Z : Option α} {r : α} (hf : (if x = y then X else Z) = some r) (k1 : (x = y) → X = some r → At p l e R s m args below meth c nL cells slots Q B D Y o tgt M L rest) (k2 : ¬ (x = y) → Z = some r → At p l e R s m args below meth c nL cells slots Q B D Y o (pc + 3) M L rest) : At p l e R s m args below meth c nL cells slots Q B D Y o pc M L (.int y :: .int x :: rest) := fun H locs ls hP hS hl => lv_icmp_eq C.1 C.2.1 hd ht (fun z => k1 z (by rwa [if_pos z] at hf) H locs ls hP hS hl) (fun z => k2 z (by rwa [if_neg z] at hf) H locs ls hP hS hl)
theorem A_icmp_ne (C : Cx p s m args c cc nL own B D Y) {x y : Int32} {off : Int} (tgt : Nat) (ht : (pc : Int) + off = (tgt : Int)) (hd : decode cc pc = .ok (.if_icmp .ne off, 3)) {α : Type} {X Z : Option α} {r : α} (hf : (if x = y then X else Z) = some r) (k1 : ¬ x = y → Z = some r → At p l e R s m args below meth c nL cells slots Q B D Y o tgt M L rest) (k2 : x = y → X = some r → At p l e R s m args below meth c nL cells slots Q B D Y o (pc + 3) M L rest) : At p l e R s m args below meth c nL cells slots Q B D Y o pc M L (.int y :: .int x :: rest) := fun H locs ls hP hS hl => lv_icmp_ne C.1 C.2.1 hd ht (fun z => k1 z (by rwa [if_neg z] at hf) H locs ls hP hS hl) (fun z => k2 z (by rwa [if_pos z] at hf) H locs ls hP hS hl)
theorem A_icmp_lt (C : Cx p s m args c cc nL own B D Y) {x y : Int32} {off : Int} (tgt : Nat) (ht : (pc : Int) + off = (tgt : Int)) (hd : decode cc pc = .ok (.if_icmp .lt off, 3)) {α : Type} {X Z : Option α} {r : α} (hf : (if x < y then X else Z) = some r) (k1 : (x < y) → X = some r → At p l e R s m args below meth c nL cells slots Q B D Y o tgt M L rest) (k2 : ¬ (x < y) → Z = some r → At p l e R s m args below meth c nL cells slots Q B D Y o (pc + 3) M L rest) : At p l e R s m args below meth c nL cells slots Q B D Y o pc M L (.int y :: .int x :: rest) := fun H locs ls hP hS hl => lv_icmp_lt C.1 C.2.1 hd ht (fun z => k1 z (by rwa [if_pos z] at hf) H locs ls hP hS hl) (fun z => k2 z (by rwa [if_neg z] at hf) H locs ls hP hS hl)
theorem A_icmp_ge (C : Cx p s m args c cc nL own B D Y) {x y : Int32} {off : Int} (tgt : Nat) (ht : (pc : Int) + off = (tgt : Int)) (hd : decode cc pc = .ok (.if_icmp .ge off, 3)) {α : Type} {X Z : Option α} {r : α} (hf : (if y ≤ x then X else Z) = some r) (k1 : (y ≤ x) → X = some r → At p l e R s m args below meth c nL cells slots Q B D Y o tgt M L rest) (k2 : ¬ (y ≤ x) → Z = some r → At p l e R s m args below meth c nL cells slots Q B D Y o (pc + 3) M L rest) : At p l e R s m args below meth c nL cells slots Q B D Y o pc M L (.int y :: .int x :: rest) := fun H locs ls hP hS hl => lv_icmp_ge C.1 C.2.1 hd ht (fun z => k1 z (by rwa [if_pos z] at hf) H locs ls hP hS hl) (fun z => k2 z (by rwa [if_neg z] at hf) H locs ls hP hS hl)
theorem A_icmp_gt (C : Cx p s m args c cc nL own B D Y) {x y : Int32} {off : Int} (tgt : Nat) (ht : (pc : Int) + off = (tgt : Int)) (hd : decode cc pc = .ok (.if_icmp .gt off, 3)) {α : Type} {X Z : Option α} {r : α} (hf : (if y < x then X else Z) = some r) (k1 : (y < x) → X = some r → At p l e R s m args below meth c nL cells slots Q B D Y o tgt M L rest) (k2 : ¬ (y < x) → Z = some r → At p l e R s m args below meth c nL cells slots Q B D Y o (pc + 3) M L rest) : At p l e R s m args below meth c nL cells slots Q B D Y o pc M L (.int y :: .int x :: rest) := fun H locs ls hP hS hl => lv_icmp_gt C.1 C.2.1 hd ht (fun z => k1 z (by rwa [if_pos z] at hf) H locs ls hP hS hl) (fun z => k2 z (by rwa [if_neg z] at hf) H locs ls hP hS hl)
theorem A_icmp_le (C : Cx p s m args c cc nL own B D Y) {x y : Int32} {off : Int} (tgt : Nat) (ht : (pc : Int) + off = (tgt : Int)) (hd : decode cc pc = .ok (.if_icmp .le off, 3)) {α : Type} {X Z : Option α} {r : α} (hf : (if x ≤ y then X else Z) = some r) (k1 : (x ≤ y) → X = some r → At p l e R s m args below meth c nL cells slots Q B D Y o tgt M L rest) (k2 : ¬ (x ≤ y) → Z = some r → At p l e R s m args below meth c nL cells slots Q B D Y o (pc + 3) M L rest) : At p l e R s m args below meth c nL cells slots Q B D Y o pc M L (.int y :: .int x :: rest) := fun H locs ls hP hS hl => lv_icmp_le C.1 C.2.1 hd ht (fun z => k1 z (by rwa [if_pos z] at hf) H locs ls hP hS hl) (fun z => k2 z (by rwa [if_neg z] at hf) H locs ls hP hS hl)
theorem A_if_eq (C : Cx p s m args c cc nL own B D Y) {x : Int32} {off : Int} (tgt : Nat) (ht : (pc : Int) + off = (tgt : Int)) (hd : decode cc pc = .ok (.ifCond .eq off, 3)) {α : Type} {X Z : Option α} {r : α} (hf : (if x = 0 then X else Z) = some r) (k1 : (x = 0) → X = some r → At p l e R s m args below meth c nL cells slots Q B D Y o tgt M L rest) (k2 : ¬ (x = 0) → Z = some r → At p l e R s m args below meth c nL cells slots Q B D Y o (pc + 3) M L rest) : At p l e R s m args below meth c nL cells slots Q B D Y o pc M L (.int x :: rest) := fun H locs ls hP hS hl => lv_if_eq C.1 C.2.1 hd ht (fun z => k1 z (by rwa [if_pos z] at hf) H locs ls hP hS hl) (fun z => k2 z (by rwa [if_neg z] at hf) H locs ls hP hS hl)
theorem A_if_ne (C : Cx p s m args c cc nL own B D Y) {x : Int32} {off : Int} (tgt : Nat) (ht : (pc : Int) + off = (tgt : Int)) (hd : decode cc pc = .ok (.ifCond .ne off, 3)) {α : Type} {X Z : Option α} {r : α} (hf : (if x = 0 then X else Z) = some r) (k1 : ¬ x = 0 → Z = some r → At p l e R s m args below meth c nL cells slots Q B D Y o tgt M L rest) (k2 : x = 0 → X = some r → At p l e R s m args below meth c nL cells slots Q B D Y o (pc + 3) M L rest) : At p l e R s m args below meth c nL cells slots Q B D Y o pc M L (.int x :: rest) := fun H locs ls hP hS hl => lv_if_ne C.1 C.2.1 hd ht (fun z => k1 z (by rwa [if_neg z] at hf) H locs ls hP hS hl) (fun z => k2 z (by rwa [if_pos z] at hf) H locs ls hP hS hl)
theorem A_if_lt (C : Cx p s m args c cc nL own B D Y) {x : Int32} {off : Int} (tgt : Nat) (ht : (pc : Int) + off = (tgt : Int)) (hd : decode cc pc = .ok (.ifCond .lt off, 3)) {α : Type} {X Z : Option α} {r : α} (hf : (if x < 0 then X else Z) = some r) (k1 : (x < 0) → X = some r → At p l e R s m args below meth c nL cells slots Q B D Y o tgt M L rest) (k2 : ¬ (x < 0) → Z = some r → At p l e R s m args below meth c nL cells slots Q B D Y o (pc + 3) M L rest) : At p l e R s m args below meth c nL cells slots Q B D Y o pc M L (.int x :: rest) := fun H locs ls hP hS hl => lv_if_lt C.1 C.2.1 hd ht (fun z => k1 z (by rwa [if_pos z] at hf) H locs ls hP hS hl) (fun z => k2 z (by rwa [if_neg z] at hf) H locs ls hP hS hl)
theorem A_if_ge (C : Cx p s m args c cc nL own B D Y) {x : Int32} {off : Int} (tgt : Nat) (ht : (pc : Int) + off = (tgt : Int)) (hd : decode cc pc = .ok (.ifCond .ge off, 3)) {α : Type} {X Z : Option α} {r : α} (hf : (if 0 ≤ x then X else Z) = some r) (k1 : (0 ≤ x) → X = some r → At p l e R s m args below meth c nL cells slots Q B D Y o tgt M L rest) (k2 : ¬ (0 ≤ x) → Z = some r → At p l e R s m args below meth c nL cells slots Q B D Y o (pc + 3) M L rest) : At p l e R s m args below meth c nL cells slots Q B D Y o pc M L (.int x :: rest) := fun H locs ls hP hS hl => lv_if_ge C.1 C.2.1 hd ht (fun z => k1 z (by rwa [if_pos z] at hf) H locs ls hP hS hl) (fun z => k2 z (by rwa [if_neg z] at hf) H locs ls hP hS hl)
theorem A_if_gt (C : Cx p s m args c cc nL own B D Y) {x : Int32} {off : Int} (tgt : Nat) (ht : (pc : Int) + off = (tgt : Int)) (hd : decode cc pc = .ok (.ifCond .gt off, 3)) {α : Type} {X Z : Option α} {r : α} (hf : (if 0 < x then X else Z) = some r) (k1 : (0 < x) → X = some r → At p l e R s m args below meth c nL cells slots Q B D Y o tgt M L rest) (k2 : ¬ (0 < x) → Z = some r → At p l e R s m args below meth c nL cells slots Q B D Y o (pc + 3) M L rest) : At p l e R s m args below meth c nL cells slots Q B D Y o pc M L (.int x :: rest) := fun H locs ls hP hS hl => lv_if_gt C.1 C.2.1 hd ht (fun z => k1 z (by rwa [if_pos z] at hf) H locs ls hP hS hl) (fun z => k2 z (by rwa [if_neg z] at hf) H locs ls hP hS hl)
theorem A_if_le (C : Cx p s m args c cc nL own B D Y) {x : Int32} {off : Int} (tgt : Nat) (ht : (pc : Int) + off = (tgt : Int)) (hd : decode cc pc = .ok (.ifCond .le off, 3)) {α : Type} {X Z : Option α} {r : α} (hf : (if x ≤ 0 then X else Z) = some r) (k1 : (x ≤ 0) → X = some r → At p l e R s m args below meth c nL cells slots Q B D Y o tgt M L rest) (k2 : ¬ (x ≤ 0) → Z = some r → At p l e R s m args below meth c nL cells slots Q B D Y o (pc + 3) M L rest) : At p l e R s m args below meth c nL cells slots Q B D Y o pc M L (.int x :: rest) := fun H locs ls hP hS hl => lv_if_le C.1 C.2.1 hd ht (fun z => k1 z (by rwa [if_pos z] at hf) H locs ls hP hS hl) (fun z => k2 z (by rwa [if_neg z] at hf) H locs ls hP hS hl)
theorem A_goto (C : Cx p s m args c cc nL own B D Y) {off : Int} (tgt : Nat) (ht : (pc : Int) + off = (tgt : Int)) (hd : decode cc pc = .ok (.goto off, 3)) (k : At p l e R s m args below meth c nL cells slots Q B D Y o tgt M L rest) : At p l e R s m args below meth c nL cells slots Q B D Y o pc M L rest := fun H locs ls hP hS hl => lv_goto C.1 C.2.1 hd ht (k H locs ls hP hS hl)
theorem A_sub (ks : List Nat) (h : lv_pick L ks = L') (k : At p l e R s m args below meth c nL cells slots Q B D Y o pc M L' rest) : At p l e R s m args below meth c nL cells slots Q B D Y o pc M L rest := fun H locs ls hP hS hl => k H locs ls hP hS (lv_sub hl ks h)
theorem A_ldc (C : Cx p s m args c cc nL own B D Y) {idx : Nat} {v : Int32} (hw : Cond.constant own idx v ∈ Tz) (hd : decode cc pc = .ok (.ldc idx, 2)) (k : At p l e R s m args below meth c nL cells slots Q B D Y o (pc + 2) M L (.int v :: rest)) : At p l e R s m args below meth c nL cells slots Q B D Y o pc M L rest := fun H locs ls hP hS hl => lv_ldc C.1 C.2.1 C.2.2.2.1 (C.2.2.2.2.1.use hw) hd (k H locs ls hP hS hl)
theorem A_ldc2 (C : Cx p s m args c cc nL own B D Y) {idx : Nat} {v : Int64} (hw : Cond.constantLong own idx v ∈ Tz) (hd : decode cc pc = .ok (.ldc2_w idx, 3)) (k : At p l e R s m args below meth c nL cells slots Q B D Y o (pc + 3) M L (.long v :: rest)) : At p l e R s m args below meth c nL cells slots Q B D Y o pc M L rest := fun H locs ls hP hS hl => lv_ldc2 C.1 C.2.1 C.2.2.2.1 (C.2.2.2.2.1.use hw) hd (k H locs ls hP hS hl)
theorem A_ldcw (C : Cx p s m args c cc nL own B D Y) {idx : Nat} {v : Int32} (hw : Cond.constant own idx v ∈ Tz) (hd : decode cc pc = .ok (.ldc_w idx, 3)) (k : At p l e R s m args below meth c nL cells slots Q B D Y o (pc + 3) M L (.int v :: rest)) : At p l e R s m args below meth c nL cells slots Q B D Y o pc M L rest := fun H locs ls hP hS hl => lv_ldcw C.1 C.2.1 C.2.2.2.1 (C.2.2.2.2.1.use hw) hd (k H locs ls hP hS hl)
theorem hTz (C0 : Cx p s m args c cc nL own B D Y) : ∀ w ∈ Tz, w.before args s = true := fun w h => C0.2.2.2.2.1.use h
theorem A_get (C : Cx p s m args c cc nL own B D Y) {K : String} {T : u_T} {N ci q idx : Nat} {fs : List Value} {v : Value} (hq : q < 112) (he : ent B Y M o q = .inr (ci, fs)) (hcl : vwCl[ci]? = some (K, T, N)) (hin : ∀ w ∈ u_ws K T N, w ∈ Tz) (j : Nat) (hj : j < N) (hT : (T j).1 = K) (hw : Cond.fieldLink own idx K (T j).2.1 (T j).2.2.1 ∈ Tz) (hv : fs[j]? = some v) (hd : decode cc pc = .ok (.getfield idx, 3)) (k : At p l e R s m args below meth c nL cells slots Q B D Y o (pc + 3) M L (v :: rest)) : At p l e R s m args below meth c nL cells slots Q B D Y o pc M L (.ref (B + q) :: rest) := fun H locs ls hP hS hl =>
  va_get C.1 C.2.1 (hTz C) hin C.2.2.2.1 C.2.2.2.2.2.1 hP q (by rw [WL_at hq, he]) hcl j hj (C.2.2.2.2.1.use hw) (fun x hx => by rw [hT] at hx; exact hx) hv hd (k H locs ls hP hS hl)
theorem A_g0_0 (C : Cx p s m args c cc nL own B D Y) {q idx : Nat} (hq : kd q = 3) (hw : Cond.fieldLink own idx RX0 "ahead" "[I" ∈ Tz) (hd : decode cc pc = .ok (.getfield idx, 3)) (k : At p l e R s m args below meth c nL cells slots Q B D Y o (pc + 3) M L (.ref (B + (q + 1)) :: rest)) : At p l e R s m args below meth c nL cells slots Q B D Y o pc M L (.ref (B + q) :: rest) := A_get C (kC hq).1 (ent3 hq) (K := RX0) (T := TX0) (N := 2) rfl inX0 0 (by decide) rfl hw rfl hd k
theorem A_g0_1 (C : Cx p s m args c cc nL own B D Y) {q idx : Nat} (hq : kd q = 3) (hw : Cond.fieldLink own idx RX0 "searched" "[I" ∈ Tz) (hd : decode cc pc = .ok (.getfield idx, 3)) (k : At p l e R s m args below meth c nL cells slots Q B D Y o (pc + 3) M L (.ref (B + (q + 2)) :: rest)) : At p l e R s m args below meth c nL cells slots Q B D Y o pc M L (.ref (B + q) :: rest) := A_get C (kC hq).1 (ent3 hq) (K := RX0) (T := TX0) (N := 2) rfl inX0 1 (by decide) rfl hw rfl hd k
theorem A_g2_0 (C : Cx p s m args c cc nL own B D Y) {q idx : Nat} (hq : kd q = 5) (hw : Cond.fieldLink own idx RX2 "ofHigh" "[I" ∈ Tz) (hd : decode cc pc = .ok (.getfield idx, 3)) (k : At p l e R s m args below meth c nL cells slots Q B D Y o (pc + 3) M L (.ref (B + (q + 1)) :: rest)) : At p l e R s m args below meth c nL cells slots Q B D Y o pc M L (.ref (B + q) :: rest) := A_get C (kN hq).1 (ent5 hq) (K := RX2) (T := TX2) (N := 1) rfl inX2 0 (by decide) rfl hw rfl hd k
theorem A_g3_0 (C : Cx p s m args c cc nL own B D Y) {q idx : Nat} (hq : kd q = 2) (hw : Cond.fieldLink own idx RX3 "count" "I" ∈ Tz) (hd : decode cc pc = .ok (.getfield idx, 3)) (k : At p l e R s m args below meth c nL cells slots Q B D Y o (pc + 3) M L (.int (M q 0) :: rest)) : At p l e R s m args below meth c nL cells slots Q B D Y o pc M L (.ref (B + q) :: rest) := A_get C (kO hq).1 (ent2 hq) (K := RX3) (T := TX3) (N := 3) rfl inX3 0 (by decide) rfl hw rfl hd k
theorem A_g3_1 (C : Cx p s m args c cc nL own B D Y) {q idx : Nat} (hq : kd q = 2) (hw : Cond.fieldLink own idx RX3 "below" "[I" ∈ Tz) (hd : decode cc pc = .ok (.getfield idx, 3)) (k : At p l e R s m args below meth c nL cells slots Q B D Y o (pc + 3) M L (.ref (B + (q + 1)) :: rest)) : At p l e R s m args below meth c nL cells slots Q B D Y o pc M L (.ref (B + q) :: rest) := A_get C (kO hq).1 (ent2 hq) (K := RX3) (T := TX3) (N := 3) rfl inX3 1 (by decide) rfl hw rfl hd k
theorem A_g3_2 (C : Cx p s m args c cc nL own B D Y) {q idx : Nat} (hq : kd q = 2) (hw : Cond.fieldLink own idx RX3 "values" "[I" ∈ Tz) (hd : decode cc pc = .ok (.getfield idx, 3)) (k : At p l e R s m args below meth c nL cells slots Q B D Y o (pc + 3) M L (.ref (B + (q + 2)) :: rest)) : At p l e R s m args below meth c nL cells slots Q B D Y o pc M L (.ref (B + q) :: rest) := A_get C (kO hq).1 (ent2 hq) (K := RX3) (T := TX3) (N := 3) rfl inX3 2 (by decide) rfl hw rfl hd k
theorem A_g4_0 (C : Cx p s m args c cc nL own B D Y) {q idx : Nat} (hq : kd q = 4) (hw : Cond.fieldLink own idx RX4 "waysTo" "[I" ∈ Tz) (hd : decode cc pc = .ok (.getfield idx, 3)) (k : At p l e R s m args below meth c nL cells slots Q B D Y o (pc + 3) M L (.ref (B + (q + 1)) :: rest)) : At p l e R s m args below meth c nL cells slots Q B D Y o pc M L (.ref (B + q) :: rest) := A_get C (kR hq).1 (ent4 hq) (K := RX4) (T := TX4) (N := 3) rfl inX4 0 (by decide) rfl hw rfl hd k
theorem A_g4_1 (C : Cx p s m args c cc nL own B D Y) {q idx : Nat} (hq : kd q = 4) (hw : Cond.fieldLink own idx RX4 "waysOn" "[I" ∈ Tz) (hd : decode cc pc = .ok (.getfield idx, 3)) (k : At p l e R s m args below meth c nL cells slots Q B D Y o (pc + 3) M L (.ref (B + (q + 2)) :: rest)) : At p l e R s m args below meth c nL cells slots Q B D Y o pc M L (.ref (B + q) :: rest) := A_get C (kR hq).1 (ent4 hq) (K := RX4) (T := TX4) (N := 3) rfl inX4 1 (by decide) rfl hw rfl hd k
theorem A_g4_2 (C : Cx p s m args c cc nL own B D Y) {q idx : Nat} (hq : kd q = 4) (hw : Cond.fieldLink own idx RX4 "line" "[I" ∈ Tz) (hd : decode cc pc = .ok (.getfield idx, 3)) (k : At p l e R s m args below meth c nL cells slots Q B D Y o (pc + 3) M L (.ref (B + (q + 3)) :: rest)) : At p l e R s m args below meth c nL cells slots Q B D Y o pc M L (.ref (B + q) :: rest) := A_get C (kR hq).1 (ent4 hq) (K := RX4) (T := TX4) (N := 3) rfl inX4 2 (by decide) rfl hw rfl hd k
theorem A_g5_0 (C : Cx p s m args c cc nL own B D Y) {idx : Nat} (hw : Cond.fieldLink own idx RX5 "tried" "LBelowhouse$Order;" ∈ Tz) (hd : decode cc pc = .ok (.getfield idx, 3)) (k : At p l e R s m args below meth c nL cells slots Q B D Y o (pc + 3) M L (.ref (B + 27) :: rest)) : At p l e R s m args below meth c nL cells slots Q B D Y o pc M L (.ref (B + 26) :: rest) := A_get C (q := 26) (by decide) (M := M) rfl (K := RX5) (T := TX5) (N := 7) rfl inX5 0 (by decide) rfl hw rfl hd k
theorem A_g5_1 (C : Cx p s m args c cc nL own B D Y) {idx : Nat} (hw : Cond.fieldLink own idx RX5 "turned" "LBelowhouse$Order;" ∈ Tz) (hd : decode cc pc = .ok (.getfield idx, 3)) (k : At p l e R s m args below meth c nL cells slots Q B D Y o (pc + 3) M L (.ref (B + 30) :: rest)) : At p l e R s m args below meth c nL cells slots Q B D Y o pc M L (.ref (B + 26) :: rest) := A_get C (q := 26) (by decide) (M := M) rfl (K := RX5) (T := TX5) (N := 7) rfl inX5 1 (by decide) rfl hw rfl hd k
theorem A_g5_2 (C : Cx p s m args c cc nL own B D Y) {idx : Nat} (hw : Cond.fieldLink own idx RX5 "table" "LBelowhouse$RowTable;" ∈ Tz) (hd : decode cc pc = .ok (.getfield idx, 3)) (k : At p l e R s m args below meth c nL cells slots Q B D Y o (pc + 3) M L (.ref (B + 33) :: rest)) : At p l e R s m args below meth c nL cells slots Q B D Y o pc M L (.ref (B + 26) :: rest) := A_get C (q := 26) (by decide) (M := M) rfl (K := RX5) (T := TX5) (N := 7) rfl inX5 2 (by decide) rfl hw rfl hd k
theorem A_g5_3 (C : Cx p s m args c cc nL own B D Y) {idx : Nat} (hw : Cond.fieldLink own idx RX5 "triedTable" "LBelowhouse$RowTable;" ∈ Tz) (hd : decode cc pc = .ok (.getfield idx, 3)) (k : At p l e R s m args below meth c nL cells slots Q B D Y o (pc + 3) M L (.ref (B + 37) :: rest)) : At p l e R s m args below meth c nL cells slots Q B D Y o pc M L (.ref (B + 26) :: rest) := A_get C (q := 26) (by decide) (M := M) rfl (K := RX5) (T := TX5) (N := 7) rfl inX5 3 (by decide) rfl hw rfl hd k
theorem A_g5_4 (C : Cx p s m args c cc nL own B D Y) {idx : Nat} (hw : Cond.fieldLink own idx RX5 "chains" "LBelowhouse$Chains;" ∈ Tz) (hd : decode cc pc = .ok (.getfield idx, 3)) (k : At p l e R s m args below meth c nL cells slots Q B D Y o (pc + 3) M L (.ref (B + 41) :: rest)) : At p l e R s m args below meth c nL cells slots Q B D Y o pc M L (.ref (B + 26) :: rest) := A_get C (q := 26) (by decide) (M := M) rfl (K := RX5) (T := TX5) (N := 7) rfl inX5 4 (by decide) rfl hw rfl hd k
theorem A_g5_5 (C : Cx p s m args c cc nL own B D Y) {idx : Nat} (hw : Cond.fieldLink own idx RX5 "numbers" "LBelowhouse$Numbers;" ∈ Tz) (hd : decode cc pc = .ok (.getfield idx, 3)) (k : At p l e R s m args below meth c nL cells slots Q B D Y o (pc + 3) M L (.ref (B + 44) :: rest)) : At p l e R s m args below meth c nL cells slots Q B D Y o pc M L (.ref (B + 26) :: rest) := A_get C (q := 26) (by decide) (M := M) rfl (K := RX5) (T := TX5) (N := 7) rfl inX5 5 (by decide) rfl hw rfl hd k
theorem A_g5_6 (C : Cx p s m args c cc nL own B D Y) {idx : Nat} (hw : Cond.fieldLink own idx RX5 "sizes" "[I" ∈ Tz) (hd : decode cc pc = .ok (.getfield idx, 3)) (k : At p l e R s m args below meth c nL cells slots Q B D Y o (pc + 3) M L (.ref (B + 46) :: rest)) : At p l e R s m args below meth c nL cells slots Q B D Y o pc M L (.ref (B + 26) :: rest) := A_get C (q := 26) (by decide) (M := M) rfl (K := RX5) (T := TX5) (N := 7) rfl inX5 6 (by decide) rfl hw rfl hd k
theorem A_g6_0 (C : Cx p s m args c cc nL own B D Y) {idx : Nat} (hw : Cond.fieldLink own idx RX6 "orders" "[LBelowhouse$Order;" ∈ Tz) (hd : decode cc pc = .ok (.getfield idx, 3)) (k : At p l e R s m args below meth c nL cells slots Q B D Y o (pc + 3) M L (.ref (B + 1) :: rest)) : At p l e R s m args below meth c nL cells slots Q B D Y o pc M L (.ref (B + 0) :: rest) := A_get C (q := 0) (by decide) (M := M) rfl (K := RX6) (T := TX6) (N := 6) rfl inX6 0 (by decide) rfl hw rfl hd k
theorem A_g6_1 (C : Cx p s m args c cc nL own B D Y) {idx : Nat} (hw : Cond.fieldLink own idx RX6 "made" "LBelowhouse$Order;" ∈ Tz) (hd : decode cc pc = .ok (.getfield idx, 3)) (k : At p l e R s m args below meth c nL cells slots Q B D Y o (pc + 3) M L (.ref (B + 14) :: rest)) : At p l e R s m args below meth c nL cells slots Q B D Y o pc M L (.ref (B + 0) :: rest) := A_get C (q := 0) (by decide) (M := M) rfl (K := RX6) (T := TX6) (N := 6) rfl inX6 1 (by decide) rfl hw rfl hd k
theorem A_g6_2 (C : Cx p s m args c cc nL own B D Y) {idx : Nat} (hw : Cond.fieldLink own idx RX6 "chains" "LBelowhouse$Chains;" ∈ Tz) (hd : decode cc pc = .ok (.getfield idx, 3)) (k : At p l e R s m args below meth c nL cells slots Q B D Y o (pc + 3) M L (.ref (B + 17) :: rest)) : At p l e R s m args below meth c nL cells slots Q B D Y o pc M L (.ref (B + 0) :: rest) := A_get C (q := 0) (by decide) (M := M) rfl (K := RX6) (T := TX6) (N := 6) rfl inX6 2 (by decide) rfl hw rfl hd k
theorem A_g6_3 (C : Cx p s m args c cc nL own B D Y) {idx : Nat} (hw : Cond.fieldLink own idx RX6 "table" "LBelowhouse$RowTable;" ∈ Tz) (hd : decode cc pc = .ok (.getfield idx, 3)) (k : At p l e R s m args below meth c nL cells slots Q B D Y o (pc + 3) M L (.ref (B + 20) :: rest)) : At p l e R s m args below meth c nL cells slots Q B D Y o pc M L (.ref (B + 0) :: rest) := A_get C (q := 0) (by decide) (M := M) rfl (K := RX6) (T := TX6) (N := 6) rfl inX6 3 (by decide) rfl hw rfl hd k
theorem A_g6_4 (C : Cx p s m args c cc nL own B D Y) {idx : Nat} (hw : Cond.fieldLink own idx RX6 "numbers" "LBelowhouse$Numbers;" ∈ Tz) (hd : decode cc pc = .ok (.getfield idx, 3)) (k : At p l e R s m args below meth c nL cells slots Q B D Y o (pc + 3) M L (.ref (B + 24) :: rest)) : At p l e R s m args below meth c nL cells slots Q B D Y o pc M L (.ref (B + 0) :: rest) := A_get C (q := 0) (by decide) (M := M) rfl (K := RX6) (T := TX6) (N := 6) rfl inX6 4 (by decide) rfl hw rfl hd k
theorem A_g6_5 (C : Cx p s m args c cc nL own B D Y) {idx : Nat} (hw : Cond.fieldLink own idx RX6 "theorem" "LBelowhouse$Theorem;" ∈ Tz) (hd : decode cc pc = .ok (.getfield idx, 3)) (k : At p l e R s m args below meth c nL cells slots Q B D Y o (pc + 3) M L (.ref (B + 26) :: rest)) : At p l e R s m args below meth c nL cells slots Q B D Y o pc M L (.ref (B + 0) :: rest) := A_get C (q := 0) (by decide) (M := M) rfl (K := RX6) (T := TX6) (N := 6) rfl inX6 5 (by decide) rfl hw rfl hd k
theorem A_g7_0 (C : Cx p s m args c cc nL own B D Y) {idx : Nat} (hw : Cond.fieldLink own idx RX7 "things" "[I" ∈ Tz) (hd : decode cc pc = .ok (.getfield idx, 3)) (k : At p l e R s m args below meth c nL cells slots Q B D Y o (pc + 3) M L (.ref (B + 48) :: rest)) : At p l e R s m args below meth c nL cells slots Q B D Y o pc M L (.ref (B + 47) :: rest) := A_get C (q := 47) (by decide) (M := M) rfl (K := RX7) (T := TX7) (N := 8) rfl inX7 0 (by decide) rfl hw rfl hd k
theorem A_g7_1 (C : Cx p s m args c cc nL own B D Y) {idx : Nat} (hw : Cond.fieldLink own idx RX7 "values" "[[I" ∈ Tz) (hd : decode cc pc = .ok (.getfield idx, 3)) (k : At p l e R s m args below meth c nL cells slots Q B D Y o (pc + 3) M L (.ref (B + 49) :: rest)) : At p l e R s m args below meth c nL cells slots Q B D Y o pc M L (.ref (B + 47) :: rest) := A_get C (q := 47) (by decide) (M := M) rfl (K := RX7) (T := TX7) (N := 8) rfl inX7 1 (by decide) rfl hw rfl hd k
theorem A_g7_2 (C : Cx p s m args c cc nL own B D Y) {idx : Nat} (hw : Cond.fieldLink own idx RX7 "below" "[[[Z" ∈ Tz) (hd : decode cc pc = .ok (.getfield idx, 3)) (k : At p l e R s m args below meth c nL cells slots Q B D Y o (pc + 3) M L (.ref (B + 55) :: rest)) : At p l e R s m args below meth c nL cells slots Q B D Y o pc M L (.ref (B + 47) :: rest) := A_get C (q := 47) (by decide) (M := M) rfl (K := RX7) (T := TX7) (N := 8) rfl inX7 2 (by decide) rfl hw rfl hd k
theorem A_g7_3 (C : Cx p s m args c cc nL own B D Y) {idx : Nat} (hw : Cond.fieldLink own idx RX7 "code" "I" ∈ Tz) (hd : decode cc pc = .ok (.getfield idx, 3)) (k : At p l e R s m args below meth c nL cells slots Q B D Y o (pc + 3) M L (.int (M 47 3) :: rest)) : At p l e R s m args below meth c nL cells slots Q B D Y o pc M L (.ref (B + 47) :: rest) := A_get C (q := 47) (by decide) (M := M) rfl (K := RX7) (T := TX7) (N := 8) rfl inX7 3 (by decide) rfl hw rfl hd k
theorem A_g7_4 (C : Cx p s m args c cc nL own B D Y) {idx : Nat} (hw : Cond.fieldLink own idx RX7 "ways" "[I" ∈ Tz) (hd : decode cc pc = .ok (.getfield idx, 3)) (k : At p l e R s m args below meth c nL cells slots Q B D Y o (pc + 3) M L (.ref (B + 106) :: rest)) : At p l e R s m args below meth c nL cells slots Q B D Y o pc M L (.ref (B + 47) :: rest) := A_get C (q := 47) (by decide) (M := M) rfl (K := RX7) (T := TX7) (N := 8) rfl inX7 4 (by decide) rfl hw rfl hd k
theorem A_g7_5 (C : Cx p s m args c cc nL own B D Y) {idx : Nat} (hw : Cond.fieldLink own idx RX7 "parts" "[I" ∈ Tz) (hd : decode cc pc = .ok (.getfield idx, 3)) (k : At p l e R s m args below meth c nL cells slots Q B D Y o (pc + 3) M L (.ref (B + 107) :: rest)) : At p l e R s m args below meth c nL cells slots Q B D Y o pc M L (.ref (B + 47) :: rest) := A_get C (q := 47) (by decide) (M := M) rfl (K := RX7) (T := TX7) (N := 8) rfl inX7 5 (by decide) rfl hw rfl hd k
theorem A_g7_6 (C : Cx p s m args c cc nL own B D Y) {idx : Nat} (hw : Cond.fieldLink own idx RX7 "line" "[I" ∈ Tz) (hd : decode cc pc = .ok (.getfield idx, 3)) (k : At p l e R s m args below meth c nL cells slots Q B D Y o (pc + 3) M L (.ref (B + 108) :: rest)) : At p l e R s m args below meth c nL cells slots Q B D Y o pc M L (.ref (B + 47) :: rest) := A_get C (q := 47) (by decide) (M := M) rfl (K := RX7) (T := TX7) (N := 8) rfl inX7 6 (by decide) rfl hw rfl hd k
theorem A_g7_7 (C : Cx p s m args c cc nL own B D Y) {idx : Nat} (hw : Cond.fieldLink own idx RX7 "lows" "[I" ∈ Tz) (hd : decode cc pc = .ok (.getfield idx, 3)) (k : At p l e R s m args below meth c nL cells slots Q B D Y o (pc + 3) M L (.ref (B + 109) :: rest)) : At p l e R s m args below meth c nL cells slots Q B D Y o pc M L (.ref (B + 47) :: rest) := A_get C (q := 47) (by decide) (M := M) rfl (K := RX7) (T := TX7) (N := 8) rfl inX7 7 (by decide) rfl hw rfl hd k
theorem A_p3_0 (C : Cx p s m args c cc nL own B D Y) {q idx : Nat} {x : Int32} (hq : kd q = 2) (hw : Cond.fieldLink own idx RX3 "count" "I" ∈ Tz) (hd : decode cc pc = .ok (.putfield idx, 3)) (k : At p l e R s m args below meth c nL cells slots Q B D Y o (pc + 3) (upM M q 0 x) L rest) : At p l e R s m args below meth c nL cells slots Q B D Y o pc M L (.int x :: .ref (B + q) :: rest) := fun H locs ls hP hS hl =>
  va_put C.1 C.2.1 (hTz C) (C := RX3) (T := TX3) (N := 3) inX3 tyX3 tyX3_ok nmX3 C.2.2.2.1 C.2.2.2.2.2.1 hP (WL_D B Y M o) hS q (fs := [.int (M q 0), .ref (B + (q + 1)), .ref (B + (q + 2))]) (by rw [WL_at (kO hq).1]; exact congrArg (fun z => some (B + q, z)) (ent2 hq)) (ci := 2) rfl 0 (by decide) (C.2.2.2.2.1.use hw) (fun x hx => hx) rfl (ty := .int) rfl rfl rfl (show 0 < 3 from by decide) hd (fun H1 locs1 hP1 _ hS1 => k H1 locs1 ls (by
    have e := WL_set (B := B) (Y := Y) (M := M) (M' := upM M q 0 x) (o := o) (o' := o) (kO hq).1 (e := .inr (2, ([.int (M q 0), .ref (B + (q + 1)), .ref (B + (q + 2))]).set 0 (.int x))) (by rw [ent2 hq]; simp [upM]) (fun a ha => upM_ne ha) (Or.inl rfl)
    rw [← e]; exact hP1) hS1 hl)
theorem A_p7_3 (C : Cx p s m args c cc nL own B D Y) {idx : Nat} {x : Int32}  (hw : Cond.fieldLink own idx RX7 "code" "I" ∈ Tz) (hd : decode cc pc = .ok (.putfield idx, 3)) (k : At p l e R s m args below meth c nL cells slots Q B D Y o (pc + 3) (upM M 47 3 x) L rest) : At p l e R s m args below meth c nL cells slots Q B D Y o pc M L (.int x :: .ref (B + 47) :: rest) := fun H locs ls hP hS hl =>
  va_put C.1 C.2.1 (hTz C) (C := RX7) (T := TX7) (N := 8) inX7 tyX7 tyX7_ok nmX7 C.2.2.2.1 C.2.2.2.2.2.1 hP (WL_D B Y M o) hS 47 (fs := [.ref (B + 48), .ref (B + 49), .ref (B + 55), .int (M 47 3), .ref (B + 106), .ref (B + 107), .ref (B + 108), .ref (B + 109)]) (by rw [WL_at (by decide)]; exact congrArg (fun z => some (B + 47, z)) (show ent B Y M o 47 = _ from rfl)) (ci := 6) rfl 3 (by decide) (C.2.2.2.2.1.use hw) (fun x hx => hx) rfl (ty := .int) rfl rfl rfl (show 3 < 8 from by decide) hd (fun H1 locs1 hP1 _ hS1 => k H1 locs1 ls (by
    have e := WL_set (B := B) (Y := Y) (M := M) (M' := upM M 47 3 x) (o := o) (o' := o) (by decide) (e := .inr (6, ([.ref (B + 48), .ref (B + 49), .ref (B + 55), .int (M 47 3), .ref (B + 106), .ref (B + 107), .ref (B + 108), .ref (B + 109)]).set 3 (.int x))) (by simp [ent, upM, show kd 47 = 8 from rfl]) (fun a ha => upM_ne ha) (Or.inl rfl)
    rw [← e]; exact hP1) hS1 hl)
theorem A_iald (C : Cx p s m args c cc nL own B D Y) {q n : Nat} {i : Int32} (hq : IA q n) (hi : inb i n = true) (hd : decode cc pc = .ok (.iaload, 1)) (k : At p l e R s m args below meth c nL cells slots Q B D Y o (pc + 1) M L (.int (M q i.toNatClampNeg) :: rest)) : At p l e R s m args below meth c nL cells slots Q B D Y o pc M L (.int i :: .ref (B + q) :: rest) := fun H locs ls hP hS hl => by
  have hc : H[B + q]? = some (arrV (Y 0) n (fun j => .int (M q j))) := by
    have h0 := hP q _ (WL_at (IA_lt hq))
    rw [ent0 hq.1, hq.2] at h0
    exact h0
  have hlt := inb_lt hi
  exact W.iald (v := .int (M q i.toNatClampNeg)) C.1 C.2.1 hc (C.2.2.2.2.2.2.1 0 .int rfl n _) (fun z => by cases z) (by rw [arrV_size]; exact inb_in hi) (by rw [arrV_read _ _ hlt]) rfl rfl hd (k H locs ls hP hS hl)
theorem A_zald (C : Cx p s m args c cc nL own B D Y) {q : Nat} {i : Int32} (hq : ZA q) (hi : inb i 9 = true) (hd : decode cc pc = .ok (.baload, 1)) (k : At p l e R s m args below meth c nL cells slots Q B D Y o (pc + 1) M L (.int (M q i.toNatClampNeg) :: rest)) : At p l e R s m args below meth c nL cells slots Q B D Y o pc M L (.int i :: .ref (B + q) :: rest) := fun H locs ls hP hS hl => by
  have hc : H[B + q]? = some (arrV (Y 1) 9 (fun j => .int (M q j))) := by
    have h0 := hP q _ (WL_at (ZA_ln hq).1)
    rw [ent1 hq, (ZA_ln hq).2] at h0
    exact h0
  have hlt := inb_lt hi
  exact W.zald (v := .int (M q i.toNatClampNeg)) C.1 C.2.1 hc (C.2.2.2.2.2.2.1 1 .boolean rfl 9 _) (fun z => by cases z) (by rw [arrV_size]; exact inb_in hi) (by rw [arrV_read _ _ hlt]) rfl rfl hd (k H locs ls hP hS hl)
theorem A_iast (C : Cx p s m args c cc nL own B D Y) {q n : Nat} {i x : Int32} (hq : IA q n) (hi : inb i n = true) (hd : decode cc pc = .ok (.iastore, 1)) (k : At p l e R s m args below meth c nL cells slots Q B D Y o (pc + 1) (upM M q i.toNatClampNeg x) L rest) : At p l e R s m args below meth c nL cells slots Q B D Y o pc M L (.int x :: .int i :: .ref (B + q) :: rest) := fun H locs ls hP hS hl => by
  have h0 := hP q _ (WL_at (IA_lt hq))
  have hc : H[B + q]? = some (arrV (Y 0) n (fun j => .int (M q j))) := by
    rw [ent0 hq.1, hq.2] at h0
    exact h0
  refine W.iast C.1 C.2.1 hc (C.2.2.2.2.2.2.1 0 .int rfl n _) (fun z => by cases z) (by rw [arrV_size]; exact inb_in hi) rfl rfl hd fun H1 e z oq => ?_
  refine k H1 _ ls ?_ (hS.put z oq (Nat.le_add_right _ _)) hl
  have hs := WL_set (B := B) (Y := Y) (M := M) (M' := upM M q i.toNatClampNeg x) (o := o) (o' := o) (IA_lt hq) (e := .inl (Y 0, n, .inl (upd (M q) i.toNatClampNeg x))) (by rw [ent0 hq.1, hq.2, upM_row]) (fun a ha => upM_ne ha) (Or.inl rfl)
  rw [← hs]
  refine hP.set (WL_D B Y M o) (WL_at (IA_lt hq)) ?_ oq
  show H1[B + q]? = some (vp_cell _ _)
  rw [e, vp_cell_i, arrV_store]
  congr 2
  funext j
  by_cases hj : j = i.toNatClampNeg
  · subst hj; simp [updV, upd]
  · simp [updV, upd, hj]
theorem A_zast (C : Cx p s m args c cc nL own B D Y) {q : Nat} {i x : Int32} (hq : ZA q) (hi : inb i 9 = true) (hb : isb x = true) (hd : decode cc pc = .ok (.bastore, 1)) (k : At p l e R s m args below meth c nL cells slots Q B D Y o (pc + 1) (upM M q i.toNatClampNeg x) L rest) : At p l e R s m args below meth c nL cells slots Q B D Y o pc M L (.int x :: .int i :: .ref (B + q) :: rest) := fun H locs ls hP hS hl => by
  have h0 := hP q _ (WL_at (ZA_ln hq).1)
  have hc : H[B + q]? = some (arrV (Y 1) 9 (fun j => .int (M q j))) := by
    rw [ent1 hq, (ZA_ln hq).2] at h0
    exact h0
  refine W.zast C.1 C.2.1 hc (C.2.2.2.2.2.2.1 1 .boolean rfl 9 _) (fun z => by cases z) (by rw [arrV_size]; exact inb_in hi) rfl rfl hd fun H1 e z oq => ?_
  refine k H1 _ ls ?_ (hS.put z oq (Nat.le_add_right _ _)) hl
  have hs := WL_set (B := B) (Y := Y) (M := M) (M' := upM M q i.toNatClampNeg x) (o := o) (o' := o) (ZA_ln hq).1 (e := .inl (Y 1, 9, .inl (upd (M q) i.toNatClampNeg x))) (by rw [ent1 hq, (ZA_ln hq).2, upM_row]) (fun a ha => upM_ne ha) (Or.inl rfl)
  rw [← hs]
  refine hP.set (WL_D B Y M o) (WL_at (ZA_ln hq).1) ?_ oq
  show H1[B + q]? = some (vp_cell _ _)
  rw [e, isb_nz hb, vp_cell_i, arrV_store]
  congr 2
  funext j
  by_cases hj : j = i.toNatClampNeg
  · subst hj; simp [updV, upd]
  · simp [updV, upd, hj]
theorem A_aald (C : Cx p s m args c cc nL own B D Y) {q n t0 : Nat} {i : Int32} {ty : FieldType} {f : Nat → Option Nat} {a : Nat} (hq : q < 112) (he : ent B Y M o q = .inl (Y t0, n, .inr (.inr (.inr (.inr f))))) (ht : tyY[t0]? = some ty) (hr : ty.isReference = true) (hi : inb i n = true) (hf : f i.toNatClampNeg = some a) (hd : decode cc pc = .ok (.aaload, 1)) (k : At p l e R s m args below meth c nL cells slots Q B D Y o (pc + 1) M L (.ref a :: rest)) : At p l e R s m args below meth c nL cells slots Q B D Y o pc M L (.int i :: .ref (B + q) :: rest) := fun H locs ls hP hS hl => by
  have hc : H[B + q]? = some (arrV (Y t0) n (fun j => va_rf (f j))) := by
    have h0 := hP q _ (WL_at hq)
    rw [he] at h0
    exact h0
  have hlt := inb_lt hi
  exact W.aald (v := .ref a) (ty := ty) C.1 C.2.1 hc (C.2.2.2.2.2.2.1 t0 ty ht n _) hr (fun z => by cases z) (by rw [arrV_size]; exact inb_in hi) (by rw [arrV_read _ _ hlt, hf]; rfl) rfl rfl hd (k H locs ls hP hS hl)
theorem A_aO (C : Cx p s m args c cc nL own B D Y) {i : Int32} (hi : inb i 4 = true) (hd : decode cc pc = .ok (.aaload, 1)) (k : At p l e R s m args below meth c nL cells slots Q B D Y o (pc + 1) M L (.ref (B + (2 + 3 * i.toNatClampNeg)) :: rest)) : At p l e R s m args below meth c nL cells slots Q B D Y o pc M L (.int i :: .ref (B + 1) :: rest) := A_aald C (t0 := 2) (q := 1) (M := M) (by decide) rfl rfl rfl hi rfl hd k
theorem A_aV (C : Cx p s m args c cc nL own B D Y) {i : Int32} (hi : inb i 5 = true) (hd : decode cc pc = .ok (.aaload, 1)) (k : At p l e R s m args below meth c nL cells slots Q B D Y o (pc + 1) M L (.ref (B + (50 + i.toNatClampNeg)) :: rest)) : At p l e R s m args below meth c nL cells slots Q B D Y o pc M L (.int i :: .ref (B + 49) :: rest) := A_aald C (t0 := 3) (q := 49) (M := M) (by decide) rfl rfl rfl hi rfl hd k
theorem A_aB (C : Cx p s m args c cc nL own B D Y) {i : Int32} (hi : inb i 5 = true) (hd : decode cc pc = .ok (.aaload, 1)) (k : At p l e R s m args below meth c nL cells slots Q B D Y o (pc + 1) M L (.ref (B + (56 + 10 * i.toNatClampNeg)) :: rest)) : At p l e R s m args below meth c nL cells slots Q B D Y o pc M L (.int i :: .ref (B + 55) :: rest) := A_aald C (t0 := 4) (q := 55) (M := M) (by decide) rfl rfl rfl hi rfl hd k
theorem A_aR (C : Cx p s m args c cc nL own B D Y) {q : Nat} {i : Int32} (hq : kd q = 12) (hi : inb i 9 = true) (hd : decode cc pc = .ok (.aaload, 1)) (k : At p l e R s m args below meth c nL cells slots Q B D Y o (pc + 1) M L (.ref (B + (q + 1 + i.toNatClampNeg)) :: rest)) : At p l e R s m args below meth c nL cells slots Q B D Y o pc M L (.int i :: .ref (B + q) :: rest) := A_aald C (t0 := 5) (M := M) (kd_lt (by rw [hq]; decide)) (ent12 hq) rfl rfl hi rfl hd k
theorem A_iushr (C : Cx p s m args c cc nL own B D Y) {x y : Int32} (hd : decode cc pc = .ok (.iushr, 1)) (k : At p l e R s m args below meth c nL cells slots Q B D Y o (pc + 1) M L (.int (ush x y) :: rest)) : At p l e R s m args below meth c nL cells slots Q B D Y o pc M L (.int y :: .int x :: rest) := fun H locs ls hP hS hl => lv_iushr C.1 C.2.1 hd rfl (k H locs ls hP hS hl)
theorem A_nmI {x v : Int32} (h : some x = some v) (k : At p l e R s m args below meth c nL cells slots Q B D Y o pc M L (.int v :: rest)) : At p l e R s m args below meth c nL cells slots Q B D Y o pc M L (.int x :: rest) := by cases h; exact k
theorem A_nmL {x v : Int64} (h : some x = some v) (k : At p l e R s m args below meth c nL cells slots Q B D Y o pc M L (.long v :: rest)) : At p l e R s m args below meth c nL cells slots Q B D Y o pc M L (.long x :: rest) := by cases h; exact k
theorem A_nmM {M2 : Mem} (h : some M = some M2) (k : At p l e R s m args below meth c nL cells slots Q B D Y o pc M2 L rest) : At p l e R s m args below meth c nL cells slots Q B D Y o pc M L rest := by cases h; exact k
/-! returns -/
theorem R_i (C : Cx p s m args c cc nL own B D Y) {v : Int32} {ty : FieldType} (hr : meth.sig.returnType = some ty) (hk : meth.locks = false) (hn : narrow ty (.int v) = .int v) (hd : decode cc pc = .ok (.ireturn, 1)) : At p l e R s m args below meth c nL cells slots (MQ below (PQ B D Y M o (some (.int v))) args s cells slots (fun q => B ≤ q)) B D Y o pc M L [.int v] := fun H locs ls hP hS hl =>
  W.zret C.1 C.2.1 hr hn (fun t ht _ => ⟨rfl, by rw [ht]; exact hP, hS.F ht⟩) hS.2.2 hd hk
theorem R_v (C : Cx p s m args c cc nL own B D Y) (hr : meth.sig.returnType = none) (hk : meth.locks = false) (hd : decode cc pc = .ok (.return_, 1)) : At p l e R s m args below meth c nL cells slots (MQ below (PQ B D Y M o none) args s cells slots (fun q => B ≤ q)) B D Y o pc M L [] := fun H locs ls hP hS hl =>
  W.vret C.1 C.2.1 hr (fun t ht _ => ⟨rfl, by rw [ht]; exact hP, hS.F ht⟩) hS.2.2 hd hk
theorem R_l (C : Cx p s m args c cc nL own B D Y) {v : Int64} (hr : meth.sig.returnType = some .long) (hk : meth.locks = false) (hd : decode cc pc = .ok (.lreturn, 1)) : At p l e R s m args below meth c nL cells slots (MQ below (PQ B D Y M o (some (.long v))) args s cells slots (fun q => B ≤ q)) B D Y o pc M L [.long v] := fun H locs ls hP hS hl =>
  W.lret C.1 C.2.1 hr (fun t ht _ => ⟨rfl, by rw [ht]; exact hP, hS.F ht⟩) hS.2.2 hd hk
theorem R_d (C : Cx p s m args c cc nL own B D Y) {v : UInt64} (hr : meth.sig.returnType = some .double) (hk : meth.locks = false) (hd : decode cc pc = .ok (.dreturn, 1)) : At p l e R s m args below meth c nL cells slots (MQ below (PQ B D Y M o (some (.double v))) args s cells slots (fun q => B ≤ q)) B D Y o pc M L [.double v] := fun H locs ls hP hS hl =>
  W.dret C.1 C.2.1 hr (fun t ht _ => ⟨rfl, by rw [ht]; exact hP, hS.F ht⟩) hS.2.2 hd hk
theorem R_f (C : Cx p s m args c cc nL own B D Y) {v : UInt32} (hr : meth.sig.returnType = some .float) (hk : meth.locks = false) (hd : decode cc pc = .ok (.freturn, 1)) : At p l e R s m args below meth c nL cells slots (MQ below (PQ B D Y M o (some (.float v))) args s cells slots (fun q => B ≤ q)) B D Y o pc M L [.float v] := fun H locs ls hP hS hl =>
  W.fret C.1 C.2.1 hr (fun t ht _ => ⟨rfl, by rw [ht]; exact hP, hS.F ht⟩) hS.2.2 hd hk
theorem R_a (C : Cx p s m args c cc nL own B D Y) {q : Nat} {rt : FieldType} (hr : meth.sig.returnType = some rt) (hrt : (∃ n, rt = .object n) ∨ ∃ t, rt = .array t) (hk : meth.locks = false) (hd : decode cc pc = .ok (.areturn, 1)) : At p l e R s m args below meth c nL cells slots (MQ below (PQ B D Y M o (some (.ref q))) args s cells slots (fun q => B ≤ q)) B D Y o pc M L [.ref q] := fun H locs ls hP hS hl =>
  W.aret C.1 C.2.1 hr hrt (Or.inr ⟨q, rfl⟩) (fun t ht _ => ⟨rfl, by rw [ht]; exact hP, hS.F ht⟩) hS.2.2 hd hk
abbrev QQ (below : List Frame) (args : Array Value) (s : State) (B : Nat) (D : va_G) (Y : Nat → ClassId) (M : Mem) (o : Ou) (v : Option Value) : State → Prop := MQ below (PQ B D Y M o v) args s 0 0 (fun q => B ≤ q)
def FU : Nat := 4096
/-! calls -/
/-- the words of a call: the link at the place idx of the class own; what is known of the callee -/
def LK (own : String) (idx : Nat) (y : MethodName) : Prop := Cond.methodLink own idx y ∈ Tz ∨ ∃ z, Cond.methodLinkNest own idx y z ∈ Tz
def CY (y : MethodName) (cy : ByteArray) (nl : Nat) (ret : Option FieldType) (n : Nat) : Prop :=
  Cond.code y cy nl ret ∈ Tz ∧ Cond.initialized y.cls ∈ Tz ∧ (y.cls ≠ "java/lang/invoke/MethodHandle" ∧ y.cls ≠ "java/lang/invoke/VarHandle") ∧ (parseMethodDescriptor y.desc).map (fun d => d.parameters.length) = some n
def CYv (y : MethodName) : Prop := Cond.instanceMethod y ∈ Tz ∧ Cond.selects y.cls y y ∈ Tz
theorem code_ok {y : MethodName} {cy : ByteArray} {nl : Nat} {ret : Option FieldType} : ((Cond.code y cy nl ret).onTables && (Cond.code y cy nl ret).keeps) = true := rfl
theorem runGo {M' : Mem} {v : Option Value} {a : Array Value} {st st0 : List Value} {H : Heap} {locs : List Loc} {ls : Array Slot} (hr : va_Run p l e R s m args below meth c H locs cells slots 0 0 (F0 m pc ls st0) st (PQ B D Y M' o v a) (fun q => B ≤ q)) (hS : va_S (fun q => B ≤ q) s.heap H locs) (hl : lv_has ls nL L) (k : At p l e R s m args below meth c nL cells slots Q B D Y o (pc + 3) M' L (v.toList ++ st)) : W p l e R s m args below meth c H locs cells slots Q (F0 m pc ls st0) := by
  intro T hT X
  obtain ⟨v2, st₀, t, T', L2, h0, X', hL, e1, e2, ⟨hv, hp, hz, hk⟩, go⟩ := hr T hT X
  cases hv
  rw [h0] at hz hk
  obtain ⟨t2, a1, b1⟩ := k T'.heap (locs ++ L2) ls (by rw [e1]; exact hp) ⟨Nat.le_trans hS.1 (by rw [e1]; exact hz), fun q h1 h2 => by rw [e1, hk q (Nat.lt_of_lt_of_le h1 hS.1) h2]; exact hS.2.1 q h1 h2, fun q hq => by
      rcases List.mem_append.mp hq with hh | hh
      · exact hS.2.2 q hh
      · exact hL q hh⟩ hl T' rfl X'
  exact ⟨t2, go t2 a1, b1⟩
theorem preOK {M0 : Mem} {A : List Value} {H : Heap} (C : Cx p s m args c cc nL own B D Y) (hP : va_P D vwCl (WL B Y M0 o) H) : PreS s H (va_Pc A (Inv B D Y M0 o)) A := ⟨fun a U g mk q => ⟨q.1, TB.same (u := U) (U := U.calling g mk a) rfl q.2.1, va_K.moved (u := U) (U := U.calling g mk a) (Vm.Alike.refl U.vm) q.2.2.1, q.2.2.2.1.moved (u := U) (U := U.calling g mk a) (Vm.Alike.refl U.vm), q.2.2.2.2⟩, fun U hU hW => ⟨rfl, C.2.2.2.2.1.moved hW, va_K.moved hW.alike C.2.2.2.2.2.1, C.2.2.2.2.2.2.1.moved hW.alike, by rw [hU]; exact hP⟩⟩
theorem A_callS (C : Cx p s m args c cc nL own B D Y) {y : MethodName} {cy : ByteArray} {nl idx n : Nat} {ret : Option FieldType} {rm : Room} {M' : Mem} {v : Option Value} {A st0 : List Value} (hli : LK own idx y) (hcy : CY y cy nl ret n) (hsta : Cond.static y ∈ Tz) (hM : MW l y cy nl ret rm B D Y o A M M' v) (hn : A.length = n) (hst : st0 = A.reverse ++ rest) (hc : (rest.map fun v => v.category).sum ≤ 8) (hrm : rm.cells = 0 ∧ rm.slots = 0 ∧ rm.frames + 1 ≤ R.frames ∧ 8 + (nl + 11) + rm.locals ≤ R.locals) (hcs : cells ≤ R.cells ∧ slots ≤ R.slots) (hd : decode cc pc = .ok (.invokestatic idx, 3)) (k : At p l e R s m args below meth c nL cells slots Q B D Y o (pc + 3) M' L (v.toList ++ rest)) : At p l e R s m args below meth c nL cells slots Q B D Y o pc M L st0 := fun H locs ls hP hS hl => by
  have C0 := C
  obtain ⟨hco, hin, hy, hds⟩ := hcy
  have hlen : ∀ sig, parseMethodDescriptor y.desc = some sig → n = sig.parameters.length := fun sig hs => by rw [hs] at hds; exact (Option.some.inj hds).symm
  have hws : ∀ w ∈ [Cond.code y cy nl ret], ∀ (a' : Array Value) (U : State), s.WarmedH U.vm → w.before a' U = true := fun w hw a' U hW => by
    rw [List.mem_singleton.mp hw]
    exact word_at hW (Or.inl code_ok) (C.2.2.2.2.1.use hco (A := args))
  obtain ⟨c1, c2, c3, c4, c5, -⟩ := C0
  rcases hli with hli | ⟨z, hli⟩
  · exact runGo (va_runS (As := A) (rest := rest) (Ts := Tz) (nL := nL) (n := n) ⟨c1, c2, c3, c4, fun w hw => c5.use hw⟩ hM ⟨⟨hrm.1, hrm.2.1, hrm.2.2.1, hrm.2.2.2, hws, List.mem_cons_self, c5.use hco, c5.use hin, hy, hlen, c5.use hli⟩, c5.use hsta⟩ (preOK C hP) rfl hn hl.1 hst (lv_room hc) hd ⟨by simpa using hcs.1, by simpa using hcs.2⟩) hS hl k
  · exact runGo (va_runSN (As := A) (rest := rest) (Ts := Tz) (nL := nL) (n := n) ⟨c1, c2, c3, c4, fun w hw => c5.use hw⟩ hM ⟨⟨⟨hrm.1, hrm.2.1, hrm.2.2.1, hrm.2.2.2, hws, List.mem_cons_self⟩, c5.use hco, c5.use hin, hy, hlen, c5.use hli⟩, c5.use hsta, trivial⟩ (preOK C hP) rfl hn hl.1 hst (lv_room hc) hd ⟨by simpa using hcs.1, by simpa using hcs.2⟩) hS hl k
/-- the class of a receiver -/
theorem recvOK {M0 : Mem} {q ci N : Nat} {fs : List Value} {K : String} {T : u_T} {H : Heap} (C : Cx p s m args c cc nL own B D Y) (hP : va_P D vwCl (WL B Y M0 o) H) (hq : q < 112) (he : ent B Y M0 o q = .inr (ci, fs)) (hcl : vwCl[ci]? = some (K, T, N)) : ∃ cellB : Cell, H[B + q]? = some cellB ∧ cellB.vm.isStatics = false ∧ s.vm.findClass K = some cellB.cls :=
  va_recv C.2.2.2.2.2.1 hP (ci := ci) (q0 := q) hcl (by rw [WL_at hq, he])
theorem A_callV (C : Cx p s m args c cc nL own B D Y) {y : MethodName} {cy : ByteArray} {nl idx n q ci N : Nat} {fs : List Value} {T : u_T} {ret : Option FieldType} {rm : Room} {M' : Mem} {v : Option Value} {A st0 : List Value} (hli : LK own idx y) (hcy : CY y cy nl ret n) (hcv : CYv y) (hM : MW l y cy nl ret rm B D Y o (.ref (B + q) :: A) M M' v) (hq : q < 112) (he : ent B Y M o q = .inr (ci, fs)) (hcl : vwCl[ci]? = some (y.cls, T, N)) (hn : A.length = n) (hst : st0 = A.reverse ++ .ref (B + q) :: rest) (hc : (rest.map fun v => v.category).sum ≤ 8) (hrm : rm.cells = 0 ∧ rm.slots = 0 ∧ rm.frames + 1 ≤ R.frames ∧ 8 + (nl + 11) + rm.locals ≤ R.locals) (hcs : cells ≤ R.cells ∧ slots ≤ R.slots) (hd : decode cc pc = .ok (.invokevirtual idx, 3)) (k : At p l e R s m args below meth c nL cells slots Q B D Y o (pc + 3) M' L (v.toList ++ rest)) : At p l e R s m args below meth c nL cells slots Q B D Y o pc M L st0 := fun H locs ls hP hS hl => by
  have C0 := C
  obtain ⟨hco, hin, hy, hds⟩ := hcy
  obtain ⟨hins, hsel⟩ := hcv
  have hlen : ∀ sig, parseMethodDescriptor y.desc = some sig → n = sig.parameters.length := fun sig hs => by rw [hs] at hds; exact (Option.some.inj hds).symm
  have hws : ∀ w ∈ [Cond.code y cy nl ret], ∀ (a' : Array Value) (U : State), s.WarmedH U.vm → w.before a' U = true := fun w hw a' U hW => by
    rw [List.mem_singleton.mp hw]
    exact word_at hW (Or.inl code_ok) (C.2.2.2.2.1.use hco (A := args))
  have hre := recvOK C hP hq he hcl
  have hpr := preOK (A := .ref (B + q) :: A) C hP
  obtain ⟨c1, c2, c3, c4, c5, -⟩ := C0
  rcases hli with hli | ⟨z, hli⟩
  · exact runGo (va_runV (As := A) (rest := rest) (Ts := Tz) (nL := nL) (n := n) (C := y.cls) ⟨c1, c2, c3, c4, fun w hw => c5.use hw⟩ hM ⟨⟨hrm.1, hrm.2.1, hrm.2.2.1, hrm.2.2.2, hws, List.mem_cons_self, c5.use hco, c5.use hin, hy, hlen, c5.use hli⟩, c5.use hins, c5.use hsel⟩ ⟨hpr.1, hre, hpr.2⟩ rfl hn hl.1 hst (lv_room hc) hd ⟨by simpa using hcs.1, by simpa using hcs.2⟩) hS hl k
  · exact runGo (va_runVN (As := A) (rest := rest) (Ts := Tz) (nL := nL) (n := n) (C := y.cls) ⟨c1, c2, c3, c4, fun w hw => c5.use hw⟩ hM ⟨⟨⟨hrm.1, hrm.2.1, hrm.2.2.1, hrm.2.2.2, hws, List.mem_cons_self⟩, c5.use hco, c5.use hin, hy, hlen, c5.use hli⟩, c5.use hins, c5.use hsel⟩ ⟨hpr.1, hre, hpr.2⟩ rfl hn hl.1 hst (lv_room hc) hd ⟨by simpa using hcs.1, by simpa using hcs.2⟩) hS hl k
theorem R_iP (C : Cx p s m args c cc nL own B D Y) {v r : Int32} {ty : FieldType} (hr : meth.sig.returnType = some ty) (hk : meth.locks = false) (hn : narrow ty (.int v) = .int v) (hd : decode cc pc = .ok (.ireturn, 1)) (hf : some v = some r) : At p l e R s m args below meth c nL 0 0 (QQ below args s B D Y M o (some (.int r))) B D Y o pc M L [.int v] := by
  cases hf
  exact R_i C hr hk hn hd
theorem R_iM (C : Cx p s m args c cc nL own B D Y) {v : Int32} {r : Int32 × Mem} {ty : FieldType} (hr : meth.sig.returnType = some ty) (hk : meth.locks = false) (hn : narrow ty (.int v) = .int v) (hd : decode cc pc = .ok (.ireturn, 1)) (hf : some (v, M) = some r) : At p l e R s m args below meth c nL 0 0 (QQ below args s B D Y r.2 o (some (.int r.1))) B D Y o pc M L [.int v] := by
  cases hf
  exact R_i C hr hk hn hd
theorem R_vM (C : Cx p s m args c cc nL own B D Y) {r : Mem} (hr : meth.sig.returnType = none) (hk : meth.locks = false) (hd : decode cc pc = .ok (.return_, 1)) (hf : some M = some r) : At p l e R s m args below meth c nL 0 0 (QQ below args s B D Y r o none) B D Y o pc M L [] := by
  cases hf
  exact R_v C hr hk hd
theorem R_lM (C : Cx p s m args c cc nL own B D Y) {v : Int64} {r : Int64 × Mem} (hr : meth.sig.returnType = some .long) (hk : meth.locks = false) (hd : decode cc pc = .ok (.lreturn, 1)) (hf : some (v, M) = some r) : At p l e R s m args below meth c nL 0 0 (QQ below args s B D Y r.2 o (some (.long r.1))) B D Y o pc M L [.long v] := by
  cases hf
  exact R_l C hr hk hd
theorem R_dM (C : Cx p s m args c cc nL own B D Y) {v : UInt64} {r : UInt64 × Mem} (hr : meth.sig.returnType = some .double) (hk : meth.locks = false) (hd : decode cc pc = .ok (.dreturn, 1)) (hf : some (v, M) = some r) : At p l e R s m args below meth c nL 0 0 (QQ below args s B D Y r.2 o (some (.double r.1))) B D Y o pc M L [.double v] := by
  cases hf
  exact R_d C hr hk hd
theorem R_fM (C : Cx p s m args c cc nL own B D Y) {v : UInt32} {r : UInt32 × Mem} (hr : meth.sig.returnType = some .float) (hk : meth.locks = false) (hd : decode cc pc = .ok (.freturn, 1)) (hf : some (v, M) = some r) : At p l e R s m args below meth c nL 0 0 (QQ below args s B D Y r.2 o (some (.float r.1))) B D Y o pc M L [.float v] := by
  cases hf
  exact R_f C hr hk hd
theorem A_callV1 (C : Cx p s m args c cc nL own B D Y) {y : MethodName} {cy : ByteArray} {nl idx n q ci N : Nat} {fs : List Value} {T : u_T} {ret : Option FieldType} {rm : Room} {M' : Mem} {w : Value} {A st0 : List Value} (hli : LK own idx y) (hcy : CY y cy nl ret n) (hcv : CYv y) (hM : MW l y cy nl ret rm B D Y o (.ref (B + q) :: A) M M' (some w)) (hq : q < 112) (he : ent B Y M o q = .inr (ci, fs)) (hcl : vwCl[ci]? = some (y.cls, T, N)) (hn : A.length = n) (hst : st0 = A.reverse ++ .ref (B + q) :: rest) (hc : (rest.map fun v => v.category).sum ≤ 8) (hrm : rm.cells = 0 ∧ rm.slots = 0 ∧ rm.frames + 1 ≤ R.frames ∧ 8 + (nl + 11) + rm.locals ≤ R.locals) (hcs : cells ≤ R.cells ∧ slots ≤ R.slots) (hd : decode cc pc = .ok (.invokevirtual idx, 3)) (k : At p l e R s m args below meth c nL cells slots Q B D Y o (pc + 3) M' L (w :: rest)) : At p l e R s m args below meth c nL cells slots Q B D Y o pc M L st0 :=
  A_callV C hli hcy hcv hM hq he hcl hn hst hc hrm hcs hd k
theorem A_callV0 (C : Cx p s m args c cc nL own B D Y) {y : MethodName} {cy : ByteArray} {nl idx n q ci N : Nat} {fs : List Value} {T : u_T} {ret : Option FieldType} {rm : Room} {M' : Mem} {A st0 : List Value} (hli : LK own idx y) (hcy : CY y cy nl ret n) (hcv : CYv y) (hM : MW l y cy nl ret rm B D Y o (.ref (B + q) :: A) M M' none) (hq : q < 112) (he : ent B Y M o q = .inr (ci, fs)) (hcl : vwCl[ci]? = some (y.cls, T, N)) (hn : A.length = n) (hst : st0 = A.reverse ++ .ref (B + q) :: rest) (hc : (rest.map fun v => v.category).sum ≤ 8) (hrm : rm.cells = 0 ∧ rm.slots = 0 ∧ rm.frames + 1 ≤ R.frames ∧ 8 + (nl + 11) + rm.locals ≤ R.locals) (hcs : cells ≤ R.cells ∧ slots ≤ R.slots) (hd : decode cc pc = .ok (.invokevirtual idx, 3)) (k : At p l e R s m args below meth c nL cells slots Q B D Y o (pc + 3) M' L rest) : At p l e R s m args below meth c nL cells slots Q B D Y o pc M L st0 :=
  A_callV C hli hcy hcv hM hq he hcl hn hst hc hrm hcs hd k
theorem A_callS1 (C : Cx p s m args c cc nL own B D Y) {y : MethodName} {cy : ByteArray} {nl idx n : Nat} {ret : Option FieldType} {rm : Room} {M' : Mem} {w : Value} {A st0 : List Value} (hli : LK own idx y) (hcy : CY y cy nl ret n) (hsta : Cond.static y ∈ Tz) (hM : MW l y cy nl ret rm B D Y o A M M' (some w)) (hn : A.length = n) (hst : st0 = A.reverse ++ rest) (hc : (rest.map fun v => v.category).sum ≤ 8) (hrm : rm.cells = 0 ∧ rm.slots = 0 ∧ rm.frames + 1 ≤ R.frames ∧ 8 + (nl + 11) + rm.locals ≤ R.locals) (hcs : cells ≤ R.cells ∧ slots ≤ R.slots) (hd : decode cc pc = .ok (.invokestatic idx, 3)) (k : At p l e R s m args below meth c nL cells slots Q B D Y o (pc + 3) M' L (w :: rest)) : At p l e R s m args below meth c nL cells slots Q B D Y o pc M L st0 :=
  A_callS C hli hcy hsta hM hn hst hc hrm hcs hd k
end ATS
theorem nz_0 : narrow .boolean (.int 0) = .int 0 := by decide +kernel
theorem nz_1 : narrow .boolean (.int 1) = .int 1 := by decide +kernel
def nn64 (r : UInt64) : Bool := decide (r &&& 0x7fffffffffffffff ≤ 0x7ff0000000000000)
theorem nn64_i {r : UInt64} (h : nn64 r = true) : vf_n64 r := by unfold vf_n64; exact of_decide_eq_true h
def nn32 (r : UInt32) : Bool := decide (r &&& 0x7fffffff ≤ 0x7f800000)
theorem nn32_i {r : UInt32} (h : nn32 r = true) : vf_n32 r := by unfold vf_n32; exact of_decide_eq_true h
def nz (y : Int32) : Bool := !decide (y = 0)
theorem nz_i {y : Int32} (h : nz y = true) : ¬ y = 0 := by simpa [nz] using h
end
section
theorem dX6_has_0 : decode cX6_has 0 = .ok (.iload_n 0, 1) := by decide +kernel
theorem dX6_has_1 : decode cX6_has 1 = .ok (.iload_n 1, 1) := by decide +kernel
theorem dX6_has_2 : decode cX6_has 2 = .ok (.ishr, 1) := by decide +kernel
theorem dX6_has_3 : decode cX6_has 3 = .ok (.iconst 1, 1) := by decide +kernel
theorem dX6_has_4 : decode cX6_has 4 = .ok (.iand, 1) := by decide +kernel
theorem dX6_has_5 : decode cX6_has 5 = .ok (.ifCond .eq 7, 3) := by decide +kernel
theorem dX6_has_8 : decode cX6_has 8 = .ok (.iconst 1, 1) := by decide +kernel
theorem dX6_has_9 : decode cX6_has 9 = .ok (.goto 4, 3) := by decide +kernel
theorem dX6_has_12 : decode cX6_has 12 = .ok (.iconst 0, 1) := by decide +kernel
theorem dX6_has_13 : decode cX6_has 13 = .ok (.ireturn, 1) := by decide +kernel
theorem dX6_isWithin_0 : decode cX6_isWithin 0 = .ok (.iload_n 0, 1) := by decide +kernel
theorem dX6_isWithin_1 : decode cX6_isWithin 1 = .ok (.iload_n 1, 1) := by decide +kernel
theorem dX6_isWithin_2 : decode cX6_isWithin 2 = .ok (.iconst (-1), 1) := by decide +kernel
theorem dX6_isWithin_3 : decode cX6_isWithin 3 = .ok (.ixor, 1) := by decide +kernel
theorem dX6_isWithin_4 : decode cX6_isWithin 4 = .ok (.iand, 1) := by decide +kernel
theorem dX6_isWithin_5 : decode cX6_isWithin 5 = .ok (.ifCond .ne 7, 3) := by decide +kernel
theorem dX6_isWithin_8 : decode cX6_isWithin 8 = .ok (.iconst 1, 1) := by decide +kernel
theorem dX6_isWithin_9 : decode cX6_isWithin 9 = .ok (.goto 4, 3) := by decide +kernel
theorem dX6_isWithin_12 : decode cX6_isWithin 12 = .ok (.iconst 0, 1) := by decide +kernel
theorem dX6_isWithin_13 : decode cX6_isWithin 13 = .ok (.ireturn, 1) := by decide +kernel
theorem dX3_isClosedBelow_0 : decode cX3_isClosedBelow 0 = .ok (.iconst 0, 1) := by decide +kernel
theorem dX3_isClosedBelow_1 : decode cX3_isClosedBelow 1 = .ok (.istore_n 2, 1) := by decide +kernel
theorem dX3_isClosedBelow_2 : decode cX3_isClosedBelow 2 = .ok (.iload_n 2, 1) := by decide +kernel
theorem dX3_isClosedBelow_3 : decode cX3_isClosedBelow 3 = .ok (.aload_n 0, 1) := by decide +kernel
theorem dX3_isClosedBelow_4 : decode cX3_isClosedBelow 4 = .ok (.getfield 22, 3) := by decide +kernel
theorem dX3_isClosedBelow_7 : decode cX3_isClosedBelow 7 = .ok (.if_icmp .ge 32, 3) := by decide +kernel
theorem dX3_isClosedBelow_10 : decode cX3_isClosedBelow 10 = .ok (.iload_n 1, 1) := by decide +kernel
theorem dX3_isClosedBelow_11 : decode cX3_isClosedBelow 11 = .ok (.iload_n 2, 1) := by decide +kernel
theorem dX3_isClosedBelow_12 : decode cX3_isClosedBelow 12 = .ok (.invokestatic 26, 3) := by decide +kernel
theorem dX3_isClosedBelow_15 : decode cX3_isClosedBelow 15 = .ok (.ifCond .eq 18, 3) := by decide +kernel
theorem dX3_isClosedBelow_18 : decode cX3_isClosedBelow 18 = .ok (.aload_n 0, 1) := by decide +kernel
theorem dX3_isClosedBelow_19 : decode cX3_isClosedBelow 19 = .ok (.getfield 9, 3) := by decide +kernel
theorem dX3_isClosedBelow_22 : decode cX3_isClosedBelow 22 = .ok (.iload_n 2, 1) := by decide +kernel
theorem dX3_isClosedBelow_23 : decode cX3_isClosedBelow 23 = .ok (.iaload, 1) := by decide +kernel
theorem dX3_isClosedBelow_24 : decode cX3_isClosedBelow 24 = .ok (.iload_n 1, 1) := by decide +kernel
theorem dX3_isClosedBelow_25 : decode cX3_isClosedBelow 25 = .ok (.invokestatic 71, 3) := by decide +kernel
theorem dX3_isClosedBelow_28 : decode cX3_isClosedBelow 28 = .ok (.ifCond .ne 5, 3) := by decide +kernel
theorem dX3_isClosedBelow_31 : decode cX3_isClosedBelow 31 = .ok (.iconst 0, 1) := by decide +kernel
theorem dX3_isClosedBelow_32 : decode cX3_isClosedBelow 32 = .ok (.ireturn, 1) := by decide +kernel
theorem dX3_isClosedBelow_33 : decode cX3_isClosedBelow 33 = .ok (.iinc 2 1, 3) := by decide +kernel
theorem dX3_isClosedBelow_36 : decode cX3_isClosedBelow 36 = .ok (.goto (-34), 3) := by decide +kernel
theorem dX3_isClosedBelow_39 : decode cX3_isClosedBelow 39 = .ok (.iconst 1, 1) := by decide +kernel
theorem dX3_isClosedBelow_40 : decode cX3_isClosedBelow 40 = .ok (.ireturn, 1) := by decide +kernel
theorem dX3_setLimit_0 : decode cX3_setLimit 0 = .ok (.iconst 1, 1) := by decide +kernel
theorem dX3_setLimit_1 : decode cX3_setLimit 1 = .ok (.aload_n 0, 1) := by decide +kernel
theorem dX3_setLimit_2 : decode cX3_setLimit 2 = .ok (.getfield 22, 3) := by decide +kernel
theorem dX3_setLimit_5 : decode cX3_setLimit 5 = .ok (.ishl, 1) := by decide +kernel
theorem dX3_setLimit_6 : decode cX3_setLimit 6 = .ok (.ireturn, 1) := by decide +kernel
theorem dJ6_bitCount_0f7a4_0 : decode cJ6_bitCount_0f7a4 0 = .ok (.iload_n 0, 1) := by decide +kernel
theorem dJ6_bitCount_0f7a4_1 : decode cJ6_bitCount_0f7a4 1 = .ok (.iload_n 0, 1) := by decide +kernel
theorem dJ6_bitCount_0f7a4_2 : decode cJ6_bitCount_0f7a4 2 = .ok (.iconst 1, 1) := by decide +kernel
theorem dJ6_bitCount_0f7a4_3 : decode cJ6_bitCount_0f7a4 3 = .ok (.iushr, 1) := by decide +kernel
theorem dJ6_bitCount_0f7a4_4 : decode cJ6_bitCount_0f7a4 4 = .ok (.ldc_w 265, 3) := by decide +kernel
theorem dJ6_bitCount_0f7a4_7 : decode cJ6_bitCount_0f7a4 7 = .ok (.iand, 1) := by decide +kernel
theorem dJ6_bitCount_0f7a4_8 : decode cJ6_bitCount_0f7a4 8 = .ok (.isub, 1) := by decide +kernel
theorem dJ6_bitCount_0f7a4_9 : decode cJ6_bitCount_0f7a4 9 = .ok (.istore_n 0, 1) := by decide +kernel
theorem dJ6_bitCount_0f7a4_10 : decode cJ6_bitCount_0f7a4 10 = .ok (.iload_n 0, 1) := by decide +kernel
theorem dJ6_bitCount_0f7a4_11 : decode cJ6_bitCount_0f7a4 11 = .ok (.ldc_w 266, 3) := by decide +kernel
theorem dJ6_bitCount_0f7a4_14 : decode cJ6_bitCount_0f7a4 14 = .ok (.iand, 1) := by decide +kernel
theorem dJ6_bitCount_0f7a4_15 : decode cJ6_bitCount_0f7a4 15 = .ok (.iload_n 0, 1) := by decide +kernel
theorem dJ6_bitCount_0f7a4_16 : decode cJ6_bitCount_0f7a4 16 = .ok (.iconst 2, 1) := by decide +kernel
theorem dJ6_bitCount_0f7a4_17 : decode cJ6_bitCount_0f7a4 17 = .ok (.iushr, 1) := by decide +kernel
theorem dJ6_bitCount_0f7a4_18 : decode cJ6_bitCount_0f7a4 18 = .ok (.ldc_w 266, 3) := by decide +kernel
theorem dJ6_bitCount_0f7a4_21 : decode cJ6_bitCount_0f7a4 21 = .ok (.iand, 1) := by decide +kernel
theorem dJ6_bitCount_0f7a4_22 : decode cJ6_bitCount_0f7a4 22 = .ok (.iadd, 1) := by decide +kernel
theorem dJ6_bitCount_0f7a4_23 : decode cJ6_bitCount_0f7a4 23 = .ok (.istore_n 0, 1) := by decide +kernel
theorem dJ6_bitCount_0f7a4_24 : decode cJ6_bitCount_0f7a4 24 = .ok (.iload_n 0, 1) := by decide +kernel
theorem dJ6_bitCount_0f7a4_25 : decode cJ6_bitCount_0f7a4 25 = .ok (.iload_n 0, 1) := by decide +kernel
theorem dJ6_bitCount_0f7a4_26 : decode cJ6_bitCount_0f7a4 26 = .ok (.iconst 4, 1) := by decide +kernel
theorem dJ6_bitCount_0f7a4_27 : decode cJ6_bitCount_0f7a4 27 = .ok (.iushr, 1) := by decide +kernel
theorem dJ6_bitCount_0f7a4_28 : decode cJ6_bitCount_0f7a4 28 = .ok (.iadd, 1) := by decide +kernel
theorem dJ6_bitCount_0f7a4_29 : decode cJ6_bitCount_0f7a4 29 = .ok (.ldc_w 267, 3) := by decide +kernel
theorem dJ6_bitCount_0f7a4_32 : decode cJ6_bitCount_0f7a4 32 = .ok (.iand, 1) := by decide +kernel
theorem dJ6_bitCount_0f7a4_33 : decode cJ6_bitCount_0f7a4 33 = .ok (.istore_n 0, 1) := by decide +kernel
theorem dJ6_bitCount_0f7a4_34 : decode cJ6_bitCount_0f7a4 34 = .ok (.iload_n 0, 1) := by decide +kernel
theorem dJ6_bitCount_0f7a4_35 : decode cJ6_bitCount_0f7a4 35 = .ok (.iload_n 0, 1) := by decide +kernel
theorem dJ6_bitCount_0f7a4_36 : decode cJ6_bitCount_0f7a4 36 = .ok (.bipush 8, 2) := by decide +kernel
theorem dJ6_bitCount_0f7a4_38 : decode cJ6_bitCount_0f7a4 38 = .ok (.iushr, 1) := by decide +kernel
theorem dJ6_bitCount_0f7a4_39 : decode cJ6_bitCount_0f7a4 39 = .ok (.iadd, 1) := by decide +kernel
theorem dJ6_bitCount_0f7a4_40 : decode cJ6_bitCount_0f7a4 40 = .ok (.istore_n 0, 1) := by decide +kernel
theorem dJ6_bitCount_0f7a4_41 : decode cJ6_bitCount_0f7a4 41 = .ok (.iload_n 0, 1) := by decide +kernel
theorem dJ6_bitCount_0f7a4_42 : decode cJ6_bitCount_0f7a4 42 = .ok (.iload_n 0, 1) := by decide +kernel
theorem dJ6_bitCount_0f7a4_43 : decode cJ6_bitCount_0f7a4 43 = .ok (.bipush 16, 2) := by decide +kernel
theorem dJ6_bitCount_0f7a4_45 : decode cJ6_bitCount_0f7a4 45 = .ok (.iushr, 1) := by decide +kernel
theorem dJ6_bitCount_0f7a4_46 : decode cJ6_bitCount_0f7a4 46 = .ok (.iadd, 1) := by decide +kernel
theorem dJ6_bitCount_0f7a4_47 : decode cJ6_bitCount_0f7a4 47 = .ok (.istore_n 0, 1) := by decide +kernel
theorem dJ6_bitCount_0f7a4_48 : decode cJ6_bitCount_0f7a4 48 = .ok (.iload_n 0, 1) := by decide +kernel
theorem dJ6_bitCount_0f7a4_49 : decode cJ6_bitCount_0f7a4 49 = .ok (.bipush 63, 2) := by decide +kernel
theorem dJ6_bitCount_0f7a4_51 : decode cJ6_bitCount_0f7a4 51 = .ok (.iand, 1) := by decide +kernel
theorem dJ6_bitCount_0f7a4_52 : decode cJ6_bitCount_0f7a4 52 = .ok (.ireturn, 1) := by decide +kernel
theorem dX1_findAt_0 : decode cX1_findAt 0 = .ok (.iconst 0, 1) := by decide +kernel
theorem dX1_findAt_1 : decode cX1_findAt 1 = .ok (.istore_n 2, 1) := by decide +kernel
theorem dX1_findAt_2 : decode cX1_findAt 2 = .ok (.iconst 0, 1) := by decide +kernel
theorem dX1_findAt_3 : decode cX1_findAt 3 = .ok (.istore_n 3, 1) := by decide +kernel
theorem dX1_findAt_4 : decode cX1_findAt 4 = .ok (.iload_n 3, 1) := by decide +kernel
theorem dX1_findAt_5 : decode cX1_findAt 5 = .ok (.aload_n 0, 1) := by decide +kernel
theorem dX1_findAt_6 : decode cX1_findAt 6 = .ok (.getfield 31, 3) := by decide +kernel
theorem dX1_findAt_9 : decode cX1_findAt 9 = .ok (.if_icmp .gt 56, 3) := by decide +kernel
theorem dX1_findAt_12 : decode cX1_findAt 12 = .ok (.iconst 0, 1) := by decide +kernel
theorem dX1_findAt_13 : decode cX1_findAt 13 = .ok (.istore 4, 2) := by decide +kernel
theorem dX1_findAt_15 : decode cX1_findAt 15 = .ok (.iload 4, 2) := by decide +kernel
theorem dX1_findAt_17 : decode cX1_findAt 17 = .ok (.aload_n 0, 1) := by decide +kernel
theorem dX1_findAt_18 : decode cX1_findAt 18 = .ok (.invokevirtual 15, 3) := by decide +kernel
theorem dX1_findAt_21 : decode cX1_findAt 21 = .ok (.if_icmp .ge 38, 3) := by decide +kernel
theorem dX1_findAt_24 : decode cX1_findAt 24 = .ok (.iload 4, 2) := by decide +kernel
theorem dX1_findAt_26 : decode cX1_findAt 26 = .ok (.invokestatic 9, 3) := by decide +kernel
theorem dX1_findAt_29 : decode cX1_findAt 29 = .ok (.iload_n 3, 1) := by decide +kernel
theorem dX1_findAt_30 : decode cX1_findAt 30 = .ok (.if_icmp .ne 23, 3) := by decide +kernel
theorem dX1_findAt_33 : decode cX1_findAt 33 = .ok (.aload_n 0, 1) := by decide +kernel
theorem dX1_findAt_34 : decode cX1_findAt 34 = .ok (.iload 4, 2) := by decide +kernel
theorem dX1_findAt_36 : decode cX1_findAt 36 = .ok (.invokevirtual 21, 3) := by decide +kernel
theorem dX1_findAt_39 : decode cX1_findAt 39 = .ok (.ifCond .eq 14, 3) := by decide +kernel
theorem dX1_findAt_42 : decode cX1_findAt 42 = .ok (.iload_n 2, 1) := by decide +kernel
theorem dX1_findAt_43 : decode cX1_findAt 43 = .ok (.iload_n 1, 1) := by decide +kernel
theorem dX1_findAt_44 : decode cX1_findAt 44 = .ok (.if_icmp .ne 6, 3) := by decide +kernel
theorem dX1_findAt_47 : decode cX1_findAt 47 = .ok (.iload 4, 2) := by decide +kernel
theorem dX1_findAt_49 : decode cX1_findAt 49 = .ok (.ireturn, 1) := by decide +kernel
theorem dX1_findAt_50 : decode cX1_findAt 50 = .ok (.iinc 2 1, 3) := by decide +kernel
theorem dX1_findAt_53 : decode cX1_findAt 53 = .ok (.iinc 4 1, 3) := by decide +kernel
theorem dX1_findAt_56 : decode cX1_findAt 56 = .ok (.goto (-41), 3) := by decide +kernel
theorem dX1_findAt_59 : decode cX1_findAt 59 = .ok (.iinc 3 1, 3) := by decide +kernel
theorem dX1_findAt_62 : decode cX1_findAt 62 = .ok (.goto (-58), 3) := by decide +kernel
theorem dX1_findAt_65 : decode cX1_findAt 65 = .ok (.iconst (-1), 1) := by decide +kernel
theorem dX1_findAt_66 : decode cX1_findAt 66 = .ok (.ireturn, 1) := by decide +kernel
theorem dX3_squeezed_0 : decode cX3_squeezed 0 = .ok (.iconst 0, 1) := by decide +kernel
theorem dX3_squeezed_1 : decode cX3_squeezed 1 = .ok (.istore_n 2, 1) := by decide +kernel
theorem dX3_squeezed_2 : decode cX3_squeezed 2 = .ok (.iconst 0, 1) := by decide +kernel
theorem dX3_squeezed_3 : decode cX3_squeezed 3 = .ok (.istore_n 3, 1) := by decide +kernel
theorem dX3_squeezed_4 : decode cX3_squeezed 4 = .ok (.iconst 0, 1) := by decide +kernel
theorem dX3_squeezed_5 : decode cX3_squeezed 5 = .ok (.istore 4, 2) := by decide +kernel
theorem dX3_squeezed_7 : decode cX3_squeezed 7 = .ok (.iload 4, 2) := by decide +kernel
theorem dX3_squeezed_9 : decode cX3_squeezed 9 = .ok (.bipush 9, 2) := by decide +kernel
theorem dX3_squeezed_11 : decode cX3_squeezed 11 = .ok (.if_icmp .ge 36, 3) := by decide +kernel
theorem dX3_squeezed_14 : decode cX3_squeezed 14 = .ok (.iload_n 1, 1) := by decide +kernel
theorem dX3_squeezed_15 : decode cX3_squeezed 15 = .ok (.iload 4, 2) := by decide +kernel
theorem dX3_squeezed_17 : decode cX3_squeezed 17 = .ok (.invokestatic 26, 3) := by decide +kernel
theorem dX3_squeezed_20 : decode cX3_squeezed 20 = .ok (.ifCond .eq 21, 3) := by decide +kernel
theorem dX3_squeezed_23 : decode cX3_squeezed 23 = .ok (.iload_n 0, 1) := by decide +kernel
theorem dX3_squeezed_24 : decode cX3_squeezed 24 = .ok (.iload 4, 2) := by decide +kernel
theorem dX3_squeezed_26 : decode cX3_squeezed 26 = .ok (.invokestatic 26, 3) := by decide +kernel
theorem dX3_squeezed_29 : decode cX3_squeezed 29 = .ok (.ifCond .eq 9, 3) := by decide +kernel
theorem dX3_squeezed_32 : decode cX3_squeezed 32 = .ok (.iload_n 2, 1) := by decide +kernel
theorem dX3_squeezed_33 : decode cX3_squeezed 33 = .ok (.iconst 1, 1) := by decide +kernel
theorem dX3_squeezed_34 : decode cX3_squeezed 34 = .ok (.iload_n 3, 1) := by decide +kernel
theorem dX3_squeezed_35 : decode cX3_squeezed 35 = .ok (.ishl, 1) := by decide +kernel
theorem dX3_squeezed_36 : decode cX3_squeezed 36 = .ok (.ior, 1) := by decide +kernel
theorem dX3_squeezed_37 : decode cX3_squeezed 37 = .ok (.istore_n 2, 1) := by decide +kernel
theorem dX3_squeezed_38 : decode cX3_squeezed 38 = .ok (.iinc 3 1, 3) := by decide +kernel
theorem dX3_squeezed_41 : decode cX3_squeezed 41 = .ok (.iinc 4 1, 3) := by decide +kernel
theorem dX3_squeezed_44 : decode cX3_squeezed 44 = .ok (.goto (-37), 3) := by decide +kernel
theorem dX3_squeezed_47 : decode cX3_squeezed 47 = .ok (.iload_n 2, 1) := by decide +kernel
theorem dX3_squeezed_48 : decode cX3_squeezed 48 = .ok (.ireturn, 1) := by decide +kernel
theorem dX3_retain_0 : decode cX3_retain 0 = .ok (.iconst 0, 1) := by decide +kernel
theorem dX3_retain_1 : decode cX3_retain 1 = .ok (.istore_n 2, 1) := by decide +kernel
theorem dX3_retain_2 : decode cX3_retain 2 = .ok (.iconst 0, 1) := by decide +kernel
theorem dX3_retain_3 : decode cX3_retain 3 = .ok (.istore_n 3, 1) := by decide +kernel
theorem dX3_retain_4 : decode cX3_retain 4 = .ok (.iload_n 3, 1) := by decide +kernel
theorem dX3_retain_5 : decode cX3_retain 5 = .ok (.aload_n 0, 1) := by decide +kernel
theorem dX3_retain_6 : decode cX3_retain 6 = .ok (.getfield 22, 3) := by decide +kernel
theorem dX3_retain_9 : decode cX3_retain 9 = .ok (.if_icmp .ge 48, 3) := by decide +kernel
theorem dX3_retain_12 : decode cX3_retain 12 = .ok (.iload_n 1, 1) := by decide +kernel
theorem dX3_retain_13 : decode cX3_retain 13 = .ok (.iload_n 3, 1) := by decide +kernel
theorem dX3_retain_14 : decode cX3_retain 14 = .ok (.invokestatic 26, 3) := by decide +kernel
theorem dX3_retain_17 : decode cX3_retain 17 = .ok (.ifCond .eq 34, 3) := by decide +kernel
theorem dX3_retain_20 : decode cX3_retain 20 = .ok (.aload_n 0, 1) := by decide +kernel
theorem dX3_retain_21 : decode cX3_retain 21 = .ok (.getfield 9, 3) := by decide +kernel
theorem dX3_retain_24 : decode cX3_retain 24 = .ok (.iload_n 2, 1) := by decide +kernel
theorem dX3_retain_25 : decode cX3_retain 25 = .ok (.aload_n 0, 1) := by decide +kernel
theorem dX3_retain_26 : decode cX3_retain 26 = .ok (.getfield 9, 3) := by decide +kernel
theorem dX3_retain_29 : decode cX3_retain 29 = .ok (.iload_n 3, 1) := by decide +kernel
theorem dX3_retain_30 : decode cX3_retain 30 = .ok (.iaload, 1) := by decide +kernel
theorem dX3_retain_31 : decode cX3_retain 31 = .ok (.iload_n 1, 1) := by decide +kernel
theorem dX3_retain_32 : decode cX3_retain 32 = .ok (.invokestatic 30, 3) := by decide +kernel
theorem dX3_retain_35 : decode cX3_retain 35 = .ok (.iastore, 1) := by decide +kernel
theorem dX3_retain_36 : decode cX3_retain 36 = .ok (.aload_n 0, 1) := by decide +kernel
theorem dX3_retain_37 : decode cX3_retain 37 = .ok (.getfield 15, 3) := by decide +kernel
theorem dX3_retain_40 : decode cX3_retain 40 = .ok (.iload_n 2, 1) := by decide +kernel
theorem dX3_retain_41 : decode cX3_retain 41 = .ok (.aload_n 0, 1) := by decide +kernel
theorem dX3_retain_42 : decode cX3_retain 42 = .ok (.getfield 15, 3) := by decide +kernel
theorem dX3_retain_45 : decode cX3_retain 45 = .ok (.iload_n 3, 1) := by decide +kernel
theorem dX3_retain_46 : decode cX3_retain 46 = .ok (.iaload, 1) := by decide +kernel
theorem dX3_retain_47 : decode cX3_retain 47 = .ok (.iastore, 1) := by decide +kernel
theorem dX3_retain_48 : decode cX3_retain 48 = .ok (.iinc 2 1, 3) := by decide +kernel
theorem dX3_retain_51 : decode cX3_retain 51 = .ok (.iinc 3 1, 3) := by decide +kernel
theorem dX3_retain_54 : decode cX3_retain 54 = .ok (.goto (-50), 3) := by decide +kernel
theorem dX3_retain_57 : decode cX3_retain 57 = .ok (.aload_n 0, 1) := by decide +kernel
theorem dX3_retain_58 : decode cX3_retain 58 = .ok (.iload_n 2, 1) := by decide +kernel
theorem dX3_retain_59 : decode cX3_retain 59 = .ok (.putfield 22, 3) := by decide +kernel
theorem dX3_retain_62 : decode cX3_retain 62 = .ok (.return_, 1) := by decide +kernel
theorem dX7_levelOf_0 : decode cX7_levelOf 0 = .ok (.iconst 0, 1) := by decide +kernel
theorem dX7_levelOf_1 : decode cX7_levelOf 1 = .ok (.istore_n 3, 1) := by decide +kernel
theorem dX7_levelOf_2 : decode cX7_levelOf 2 = .ok (.iconst 0, 1) := by decide +kernel
theorem dX7_levelOf_3 : decode cX7_levelOf 3 = .ok (.istore 4, 2) := by decide +kernel
theorem dX7_levelOf_5 : decode cX7_levelOf 5 = .ok (.iload 4, 2) := by decide +kernel
theorem dX7_levelOf_7 : decode cX7_levelOf 7 = .ok (.aload_n 0, 1) := by decide +kernel
theorem dX7_levelOf_8 : decode cX7_levelOf 8 = .ok (.getfield 9, 3) := by decide +kernel
theorem dX7_levelOf_11 : decode cX7_levelOf 11 = .ok (.iload_n 1, 1) := by decide +kernel
theorem dX7_levelOf_12 : decode cX7_levelOf 12 = .ok (.iaload, 1) := by decide +kernel
theorem dX7_levelOf_13 : decode cX7_levelOf 13 = .ok (.if_icmp .ge 49, 3) := by decide +kernel
theorem dX7_levelOf_16 : decode cX7_levelOf 16 = .ok (.aload_n 0, 1) := by decide +kernel
theorem dX7_levelOf_17 : decode cX7_levelOf 17 = .ok (.getfield 20, 3) := by decide +kernel
theorem dX7_levelOf_20 : decode cX7_levelOf 20 = .ok (.iload_n 1, 1) := by decide +kernel
theorem dX7_levelOf_21 : decode cX7_levelOf 21 = .ok (.aaload, 1) := by decide +kernel
theorem dX7_levelOf_22 : decode cX7_levelOf 22 = .ok (.iload 4, 2) := by decide +kernel
theorem dX7_levelOf_24 : decode cX7_levelOf 24 = .ok (.aaload, 1) := by decide +kernel
theorem dX7_levelOf_25 : decode cX7_levelOf 25 = .ok (.iload_n 2, 1) := by decide +kernel
theorem dX7_levelOf_26 : decode cX7_levelOf 26 = .ok (.baload, 1) := by decide +kernel
theorem dX7_levelOf_27 : decode cX7_levelOf 27 = .ok (.ifCond .eq 13, 3) := by decide +kernel
theorem dX7_levelOf_30 : decode cX7_levelOf 30 = .ok (.aload_n 0, 1) := by decide +kernel
theorem dX7_levelOf_31 : decode cX7_levelOf 31 = .ok (.iload_n 1, 1) := by decide +kernel
theorem dX7_levelOf_32 : decode cX7_levelOf 32 = .ok (.iload 4, 2) := by decide +kernel
theorem dX7_levelOf_34 : decode cX7_levelOf 34 = .ok (.invokevirtual 105, 3) := by decide +kernel
theorem dX7_levelOf_37 : decode cX7_levelOf 37 = .ok (.goto 4, 3) := by decide +kernel
theorem dX7_levelOf_40 : decode cX7_levelOf 40 = .ok (.iconst 0, 1) := by decide +kernel
theorem dX7_levelOf_41 : decode cX7_levelOf 41 = .ok (.istore 5, 2) := by decide +kernel
theorem dX7_levelOf_43 : decode cX7_levelOf 43 = .ok (.iload 5, 2) := by decide +kernel
theorem dX7_levelOf_45 : decode cX7_levelOf 45 = .ok (.iload_n 3, 1) := by decide +kernel
theorem dX7_levelOf_46 : decode cX7_levelOf 46 = .ok (.if_icmp .le 8, 3) := by decide +kernel
theorem dX7_levelOf_49 : decode cX7_levelOf 49 = .ok (.iload 5, 2) := by decide +kernel
theorem dX7_levelOf_51 : decode cX7_levelOf 51 = .ok (.goto 4, 3) := by decide +kernel
theorem dX7_levelOf_54 : decode cX7_levelOf 54 = .ok (.iload_n 3, 1) := by decide +kernel
theorem dX7_levelOf_55 : decode cX7_levelOf 55 = .ok (.istore_n 3, 1) := by decide +kernel
theorem dX7_levelOf_56 : decode cX7_levelOf 56 = .ok (.iinc 4 1, 3) := by decide +kernel
theorem dX7_levelOf_59 : decode cX7_levelOf 59 = .ok (.goto (-54), 3) := by decide +kernel
theorem dX7_levelOf_62 : decode cX7_levelOf 62 = .ok (.iload_n 3, 1) := by decide +kernel
theorem dX7_levelOf_63 : decode cX7_levelOf 63 = .ok (.iconst 1, 1) := by decide +kernel
theorem dX7_levelOf_64 : decode cX7_levelOf 64 = .ok (.iadd, 1) := by decide +kernel
theorem dX7_levelOf_65 : decode cX7_levelOf 65 = .ok (.ireturn, 1) := by decide +kernel
theorem dX3_isBelow_0 : decode cX3_isBelow 0 = .ok (.aload_n 0, 1) := by decide +kernel
theorem dX3_isBelow_1 : decode cX3_isBelow 1 = .ok (.getfield 9, 3) := by decide +kernel
theorem dX3_isBelow_4 : decode cX3_isBelow 4 = .ok (.iload_n 2, 1) := by decide +kernel
theorem dX3_isBelow_5 : decode cX3_isBelow 5 = .ok (.iaload, 1) := by decide +kernel
theorem dX3_isBelow_6 : decode cX3_isBelow 6 = .ok (.iload_n 1, 1) := by decide +kernel
theorem dX3_isBelow_7 : decode cX3_isBelow 7 = .ok (.invokestatic 26, 3) := by decide +kernel
theorem dX3_isBelow_10 : decode cX3_isBelow 10 = .ok (.ireturn, 1) := by decide +kernel
theorem dX3_pairCount_0 : decode cX3_pairCount 0 = .ok (.iconst 0, 1) := by decide +kernel
theorem dX3_pairCount_1 : decode cX3_pairCount 1 = .ok (.istore_n 1, 1) := by decide +kernel
theorem dX3_pairCount_2 : decode cX3_pairCount 2 = .ok (.iconst 0, 1) := by decide +kernel
theorem dX3_pairCount_3 : decode cX3_pairCount 3 = .ok (.istore_n 2, 1) := by decide +kernel
theorem dX3_pairCount_4 : decode cX3_pairCount 4 = .ok (.iload_n 2, 1) := by decide +kernel
theorem dX3_pairCount_5 : decode cX3_pairCount 5 = .ok (.aload_n 0, 1) := by decide +kernel
theorem dX3_pairCount_6 : decode cX3_pairCount 6 = .ok (.getfield 22, 3) := by decide +kernel
theorem dX3_pairCount_9 : decode cX3_pairCount 9 = .ok (.if_icmp .ge 21, 3) := by decide +kernel
theorem dX3_pairCount_12 : decode cX3_pairCount 12 = .ok (.iload_n 1, 1) := by decide +kernel
theorem dX3_pairCount_13 : decode cX3_pairCount 13 = .ok (.aload_n 0, 1) := by decide +kernel
theorem dX3_pairCount_14 : decode cX3_pairCount 14 = .ok (.getfield 9, 3) := by decide +kernel
theorem dX3_pairCount_17 : decode cX3_pairCount 17 = .ok (.iload_n 2, 1) := by decide +kernel
theorem dX3_pairCount_18 : decode cX3_pairCount 18 = .ok (.iaload, 1) := by decide +kernel
theorem dX3_pairCount_19 : decode cX3_pairCount 19 = .ok (.invokestatic 60, 3) := by decide +kernel
theorem dX3_pairCount_22 : decode cX3_pairCount 22 = .ok (.iadd, 1) := by decide +kernel
theorem dX3_pairCount_23 : decode cX3_pairCount 23 = .ok (.istore_n 1, 1) := by decide +kernel
theorem dX3_pairCount_24 : decode cX3_pairCount 24 = .ok (.iinc 2 1, 3) := by decide +kernel
theorem dX3_pairCount_27 : decode cX3_pairCount 27 = .ok (.goto (-23), 3) := by decide +kernel
theorem dX3_pairCount_30 : decode cX3_pairCount 30 = .ok (.iload_n 1, 1) := by decide +kernel
theorem dX3_pairCount_31 : decode cX3_pairCount 31 = .ok (.ireturn, 1) := by decide +kernel
theorem dX3_link_0 : decode cX3_link 0 = .ok (.iload_n 1, 1) := by decide +kernel
theorem dX3_link_1 : decode cX3_link 1 = .ok (.iload_n 2, 1) := by decide +kernel
theorem dX3_link_2 : decode cX3_link 2 = .ok (.if_icmp .eq 12, 3) := by decide +kernel
theorem dX3_link_5 : decode cX3_link 5 = .ok (.aload_n 0, 1) := by decide +kernel
theorem dX3_link_6 : decode cX3_link 6 = .ok (.iload_n 2, 1) := by decide +kernel
theorem dX3_link_7 : decode cX3_link 7 = .ok (.iload_n 1, 1) := by decide +kernel
theorem dX3_link_8 : decode cX3_link 8 = .ok (.invokevirtual 34, 3) := by decide +kernel
theorem dX3_link_11 : decode cX3_link 11 = .ok (.ifCond .eq 6, 3) := by decide +kernel
theorem dX3_link_14 : decode cX3_link 14 = .ok (.bipush (-9), 2) := by decide +kernel
theorem dX3_link_16 : decode cX3_link 16 = .ok (.ireturn, 1) := by decide +kernel
theorem dX3_link_17 : decode cX3_link 17 = .ok (.aload_n 0, 1) := by decide +kernel
theorem dX3_link_18 : decode cX3_link 18 = .ok (.invokevirtual 37, 3) := by decide +kernel
theorem dX3_link_21 : decode cX3_link 21 = .ok (.istore_n 3, 1) := by decide +kernel
theorem dX3_link_22 : decode cX3_link 22 = .ok (.aload_n 0, 1) := by decide +kernel
theorem dX3_link_23 : decode cX3_link 23 = .ok (.getfield 9, 3) := by decide +kernel
theorem dX3_link_26 : decode cX3_link 26 = .ok (.iload_n 1, 1) := by decide +kernel
theorem dX3_link_27 : decode cX3_link 27 = .ok (.iaload, 1) := by decide +kernel
theorem dX3_link_28 : decode cX3_link 28 = .ok (.iconst 1, 1) := by decide +kernel
theorem dX3_link_29 : decode cX3_link 29 = .ok (.iload_n 1, 1) := by decide +kernel
theorem dX3_link_30 : decode cX3_link 30 = .ok (.ishl, 1) := by decide +kernel
theorem dX3_link_31 : decode cX3_link 31 = .ok (.ior, 1) := by decide +kernel
theorem dX3_link_32 : decode cX3_link 32 = .ok (.istore 4, 2) := by decide +kernel
theorem dX3_link_34 : decode cX3_link 34 = .ok (.iconst 0, 1) := by decide +kernel
theorem dX3_link_35 : decode cX3_link 35 = .ok (.istore 5, 2) := by decide +kernel
theorem dX3_link_37 : decode cX3_link 37 = .ok (.iload 5, 2) := by decide +kernel
theorem dX3_link_39 : decode cX3_link 39 = .ok (.aload_n 0, 1) := by decide +kernel
theorem dX3_link_40 : decode cX3_link 40 = .ok (.getfield 22, 3) := by decide +kernel
theorem dX3_link_43 : decode cX3_link 43 = .ok (.if_icmp .ge 37, 3) := by decide +kernel
theorem dX3_link_46 : decode cX3_link 46 = .ok (.iload 5, 2) := by decide +kernel
theorem dX3_link_48 : decode cX3_link 48 = .ok (.iload_n 2, 1) := by decide +kernel
theorem dX3_link_49 : decode cX3_link 49 = .ok (.if_icmp .eq 13, 3) := by decide +kernel
theorem dX3_link_52 : decode cX3_link 52 = .ok (.aload_n 0, 1) := by decide +kernel
theorem dX3_link_53 : decode cX3_link 53 = .ok (.iload_n 2, 1) := by decide +kernel
theorem dX3_link_54 : decode cX3_link 54 = .ok (.iload 5, 2) := by decide +kernel
theorem dX3_link_56 : decode cX3_link 56 = .ok (.invokevirtual 34, 3) := by decide +kernel
theorem dX3_link_59 : decode cX3_link 59 = .ok (.ifCond .eq 15, 3) := by decide +kernel
theorem dX3_link_62 : decode cX3_link 62 = .ok (.aload_n 0, 1) := by decide +kernel
theorem dX3_link_63 : decode cX3_link 63 = .ok (.getfield 9, 3) := by decide +kernel
theorem dX3_link_66 : decode cX3_link 66 = .ok (.iload 5, 2) := by decide +kernel
theorem dX3_link_68 : decode cX3_link 68 = .ok (.dup2, 1) := by decide +kernel
theorem dX3_link_69 : decode cX3_link 69 = .ok (.iaload, 1) := by decide +kernel
theorem dX3_link_70 : decode cX3_link 70 = .ok (.iload 4, 2) := by decide +kernel
theorem dX3_link_72 : decode cX3_link 72 = .ok (.ior, 1) := by decide +kernel
theorem dX3_link_73 : decode cX3_link 73 = .ok (.iastore, 1) := by decide +kernel
theorem dX3_link_74 : decode cX3_link 74 = .ok (.iinc 5 1, 3) := by decide +kernel
theorem dX3_link_77 : decode cX3_link 77 = .ok (.goto (-40), 3) := by decide +kernel
theorem dX3_link_80 : decode cX3_link 80 = .ok (.aload_n 0, 1) := by decide +kernel
theorem dX3_link_81 : decode cX3_link 81 = .ok (.invokevirtual 37, 3) := by decide +kernel
theorem dX3_link_84 : decode cX3_link 84 = .ok (.iload_n 3, 1) := by decide +kernel
theorem dX3_link_85 : decode cX3_link 85 = .ok (.isub, 1) := by decide +kernel
theorem dX3_link_86 : decode cX3_link 86 = .ok (.ireturn, 1) := by decide +kernel
theorem ic_m1 : Int32.ofInt (-1) = (-1) := by decide +kernel
theorem ic_0 : Int32.ofInt 0 = 0 := by decide +kernel
theorem ic_1 : Int32.ofInt 1 = 1 := by decide +kernel
theorem ic_2 : Int32.ofInt 2 = 2 := by decide +kernel
theorem ic_4 : Int32.ofInt 4 = 4 := by decide +kernel
theorem bc_m9 : (Int8.ofInt (-9)).toInt32 = (-9) := by decide +kernel
theorem bc_8 : (Int8.ofInt 8).toInt32 = 8 := by decide +kernel
theorem bc_9 : (Int8.ofInt 9).toInt32 = 9 := by decide +kernel
theorem bc_16 : (Int8.ofInt 16).toInt32 = 16 := by decide +kernel
theorem bc_63 : (Int8.ofInt 63).toInt32 = 63 := by decide +kernel
theorem k_X3_26 : LK RX3 26 yX6_has := Or.inr ⟨"Belowhouse", Tz_mem (tz1 (List.mem_of_getElem? (i := 170) rfl)) rfl⟩
theorem k_X3_71 : LK RX3 71 yX6_isWithin := Or.inr ⟨"Belowhouse", Tz_mem (tz1 (List.mem_of_getElem? (i := 173) rfl)) rfl⟩
theorem k_X1_15 : LK RX1 15 yX3_setLimit := Or.inl (Tz_mem (tz1 (List.mem_of_getElem? (i := 162) rfl)) rfl)
theorem k_X1_9 : LK RX1 9 yJ6_bitCount_0f7a4 := Or.inl (Tz_mem (tz4 (List.mem_of_getElem? (i := 14) rfl)) rfl)
theorem k_X1_21 : LK RX1 21 yX3_isClosedBelow := Or.inl (Tz_mem (tz1 (List.mem_of_getElem? (i := 166) rfl)) rfl)
theorem k_X3_30 : LK RX3 30 yX3_squeezed := Or.inl (Tz_mem (tz2 (List.mem_of_getElem? (i := 151) rfl)) rfl)
theorem k_X7_105 : LK RX7 105 yX7_levelOf := Or.inl (Tz_mem (tz6 (List.mem_of_getElem? (i := 108) rfl)) rfl)
theorem k_X3_60 : LK RX3 60 yJ6_bitCount_0f7a4 := Or.inl (Tz_mem (tz1 (List.mem_of_getElem? (i := 219) rfl)) rfl)
theorem k_X3_34 : LK RX3 34 yX3_isBelow := Or.inl (Tz_mem (tz2 (List.mem_of_getElem? (i := 189) rfl)) rfl)
theorem k_X3_37 : LK RX3 37 yX3_pairCount := Or.inl (Tz_mem (tz2 (List.mem_of_getElem? (i := 193) rfl)) rfl)
theorem kf_X3_22 : Cond.fieldLink RX3 22 RX3 "count" "I" ∈ Tz := Tz_mem (tz1 (List.mem_of_getElem? (i := 33) rfl)) rfl
theorem kf_X3_9 : Cond.fieldLink RX3 9 RX3 "below" "[I" ∈ Tz := Tz_mem (tz1 (List.mem_of_getElem? (i := 39) rfl)) rfl
theorem kf_X1_31 : Cond.fieldLink RX1 31 RX3 "count" "I" ∈ Tz := Tz_mem (tz1 (List.mem_of_getElem? (i := 38) rfl)) rfl
theorem kf_X3_15 : Cond.fieldLink RX3 15 RX3 "values" "[I" ∈ Tz := Tz_mem (tz1 (List.mem_of_getElem? (i := 43) rfl)) rfl
theorem kf_X7_9 : Cond.fieldLink RX7 9 RX7 "things" "[I" ∈ Tz := Tz_mem (tz5 (List.mem_of_getElem? (i := 130) rfl)) rfl
theorem kf_X7_20 : Cond.fieldLink RX7 20 RX7 "below" "[[[Z" ∈ Tz := Tz_mem (tz5 (List.mem_of_getElem? (i := 132) rfl)) rfl
theorem ky_X6_has : CY yX6_has cX6_has 2 (some .boolean) 2 := ⟨Tz_mem (tz1 (List.mem_of_getElem? (i := 172) rfl)) rfl, Tz_mem (tz1 (List.mem_of_getElem? (i := 1) rfl)) rfl, ⟨by decide +kernel, by decide +kernel⟩, by decide +kernel⟩
theorem ky_X6_isWithin : CY yX6_isWithin cX6_isWithin 2 (some .boolean) 2 := ⟨Tz_mem (tz1 (List.mem_of_getElem? (i := 175) rfl)) rfl, Tz_mem (tz1 (List.mem_of_getElem? (i := 1) rfl)) rfl, ⟨by decide +kernel, by decide +kernel⟩, by decide +kernel⟩
theorem ky_X3_setLimit : CY yX3_setLimit cX3_setLimit 1 (some .int) 0 := ⟨Tz_mem (tz1 (List.mem_of_getElem? (i := 165) rfl)) rfl, Tz_mem (tz1 (List.mem_of_getElem? (i := 2) rfl)) rfl, ⟨by decide +kernel, by decide +kernel⟩, by decide +kernel⟩
theorem ky_J6_bitCount_0f7a4 : CY yJ6_bitCount_0f7a4 cJ6_bitCount_0f7a4 1 (some .int) 1 := ⟨Tz_mem (tz1 (List.mem_of_getElem? (i := 199) rfl)) rfl, Tz_mem (tz1 (List.mem_of_getElem? (i := 13) rfl)) rfl, ⟨by decide +kernel, by decide +kernel⟩, by decide +kernel⟩
theorem ky_X3_isClosedBelow : CY yX3_isClosedBelow cX3_isClosedBelow 3 (some .boolean) 1 := ⟨Tz_mem (tz1 (List.mem_of_getElem? (i := 169) rfl)) rfl, Tz_mem (tz1 (List.mem_of_getElem? (i := 2) rfl)) rfl, ⟨by decide +kernel, by decide +kernel⟩, by decide +kernel⟩
theorem ky_X3_squeezed : CY yX3_squeezed cX3_squeezed 5 (some .int) 2 := ⟨Tz_mem (tz2 (List.mem_of_getElem? (i := 153) rfl)) rfl, Tz_mem (tz1 (List.mem_of_getElem? (i := 2) rfl)) rfl, ⟨by decide +kernel, by decide +kernel⟩, by decide +kernel⟩
theorem ky_X7_levelOf : CY yX7_levelOf cX7_levelOf 6 (some .int) 2 := ⟨Tz_mem (tz6 (List.mem_of_getElem? (i := 111) rfl)) rfl, Tz_mem (tz1 (List.mem_of_getElem? (i := 7) rfl)) rfl, ⟨by decide +kernel, by decide +kernel⟩, by decide +kernel⟩
theorem ky_X3_isBelow : CY yX3_isBelow cX3_isBelow 3 (some .boolean) 2 := ⟨Tz_mem (tz2 (List.mem_of_getElem? (i := 192) rfl)) rfl, Tz_mem (tz1 (List.mem_of_getElem? (i := 2) rfl)) rfl, ⟨by decide +kernel, by decide +kernel⟩, by decide +kernel⟩
theorem ky_X3_pairCount : CY yX3_pairCount cX3_pairCount 3 (some .int) 0 := ⟨Tz_mem (tz2 (List.mem_of_getElem? (i := 98) rfl)) rfl, Tz_mem (tz1 (List.mem_of_getElem? (i := 2) rfl)) rfl, ⟨by decide +kernel, by decide +kernel⟩, by decide +kernel⟩
theorem ks_X6_has : Cond.static yX6_has ∈ Tz := Tz_mem (tz1 (List.mem_of_getElem? (i := 171) rfl)) rfl
theorem ks_X6_isWithin : Cond.static yX6_isWithin ∈ Tz := Tz_mem (tz1 (List.mem_of_getElem? (i := 174) rfl)) rfl
theorem ks_J6_bitCount_0f7a4 : Cond.static yJ6_bitCount_0f7a4 ∈ Tz := Tz_mem (tz1 (List.mem_of_getElem? (i := 198) rfl)) rfl
theorem ks_X3_squeezed : Cond.static yX3_squeezed ∈ Tz := Tz_mem (tz2 (List.mem_of_getElem? (i := 152) rfl)) rfl
theorem kv_X3_setLimit : CYv yX3_setLimit := ⟨Tz_mem (tz1 (List.mem_of_getElem? (i := 163) rfl)) rfl, Tz_mem (tz1 (List.mem_of_getElem? (i := 164) rfl)) rfl⟩
theorem kv_X3_isClosedBelow : CYv yX3_isClosedBelow := ⟨Tz_mem (tz1 (List.mem_of_getElem? (i := 167) rfl)) rfl, Tz_mem (tz1 (List.mem_of_getElem? (i := 168) rfl)) rfl⟩
theorem kv_X7_levelOf : CYv yX7_levelOf := ⟨Tz_mem (tz6 (List.mem_of_getElem? (i := 110) rfl)) rfl, Tz_mem (tz0 (List.mem_of_getElem? (i := 45) rfl)) rfl⟩
theorem kv_X3_isBelow : CYv yX3_isBelow := ⟨Tz_mem (tz2 (List.mem_of_getElem? (i := 190) rfl)) rfl, Tz_mem (tz2 (List.mem_of_getElem? (i := 191) rfl)) rfl⟩
theorem kv_X3_pairCount : CYv yX3_pairCount := ⟨Tz_mem (tz2 (List.mem_of_getElem? (i := 96) rfl)) rfl, Tz_mem (tz2 (List.mem_of_getElem? (i := 97) rfl)) rfl⟩
theorem kk_J6_265 : Cond.constant RJ6 265 1431655765 ∈ Tz := Tz_mem (tz1 (List.mem_of_getElem? (i := 200) rfl)) rfl
theorem kk_J6_266 : Cond.constant RJ6 266 858993459 ∈ Tz := Tz_mem (tz1 (List.mem_of_getElem? (i := 201) rfl)) rfl
theorem kk_J6_267 : Cond.constant RJ6 267 252645135 ∈ Tz := Tz_mem (tz1 (List.mem_of_getElem? (i := 202) rfl)) rfl
def RD : Nat := 12
def f_X6_has (x0 : Int32) (x1 : Int32) : Option Int32 := if ((x0 >>> (x1 &&& 31)) &&& 1) = 0 then some 0 else some 1
def rm_X6_has : Room := { frames := 0, cells := 0, slots := 0, locals := 0 }
def f_X6_isWithin (x0 : Int32) (x1 : Int32) : Option Int32 := if (x0 &&& (x1 ^^^ ((-1)))) = 0 then some 1 else some 0
def rm_X6_isWithin : Room := { frames := 0, cells := 0, slots := 0, locals := 0 }
def g_X3_isClosedBelow_L2 (M : Mem) (q0 : Nat) (x1 : Int32)   (k2 : Int32 → Option Int32) (a : Int32) : Option Int32 := (fun (x2 : Int32) => if (M q0 0) ≤ x2 then some 1 else bd (f_X6_has x1 x2) (fun z12 => if z12 = 0 then k2 (x2 + 1) else chk (inb x2 9) (bd (f_X6_isWithin (M (q0 + 1) x2.toNatClampNeg) x1) (fun z25 => if z25 = 0 then some 0 else k2 (x2 + 1))))) a
def f_X3_isClosedBelow_L2 (M : Mem) (q0 : Nat) (x1 : Int32)   : Nat → Int32 → Option Int32 := lp (g_X3_isClosedBelow_L2 M q0 x1)
def f_X3_isClosedBelow (M : Mem) (q0 : Nat) (x1 : Int32) : Option Int32 := f_X3_isClosedBelow_L2 M q0 x1 FU 0
def rm_X3_isClosedBelow : Room := { frames := 1, cells := 0, slots := 0, locals := 21 }
def f_X3_setLimit (M : Mem) (q0 : Nat) : Option Int32 := some (1 <<< ((M q0 0) &&& 31))
def rm_X3_setLimit : Room := { frames := 0, cells := 0, slots := 0, locals := 0 }
def f_J6_bitCount_0f7a4 (x0 : Int32) : Option Int32 := bd (some (x0 - ((ush x0 1) &&& 1431655765))) (fun v9 => bd (some ((v9 &&& 858993459) + ((ush v9 2) &&& 858993459))) (fun v23 => bd (some ((v23 + (ush v23 4)) &&& 252645135)) (fun v33 => bd (some (v33 + (ush v33 8))) (fun v40 => bd (some (v40 + (ush v40 16))) (fun v47 => some (v47 &&& 63))))))
def rm_J6_bitCount_0f7a4 : Room := { frames := 0, cells := 0, slots := 0, locals := 0 }
def g_X1_findAt_L15 (M : Mem) (q0 : Nat) (x1 : Int32) (x3 : Int32)  (k4 : (Int32 × Int32) → Option Int32) (k15 : (Int32 × Int32) → Option Int32) (a : Int32 × Int32) : Option Int32 := (fun (x2 : Int32) (x4 : Int32) => bd (f_X3_setLimit M q0) (fun z18 => if z18 ≤ x4 then k4 (x2, (x3 + 1)) else bd (f_J6_bitCount_0f7a4 x4) (fun z26 => if z26 = x3 then bd (f_X3_isClosedBelow M q0 x4) (fun z36 => if z36 = 0 then k15 (x2, (x4 + 1)) else if x2 = x1 then some x4 else k15 ((x2 + 1), (x4 + 1))) else k15 (x2, (x4 + 1))))) a.1 a.2
def f_X1_findAt_L15 (M : Mem) (q0 : Nat) (x1 : Int32) (x3 : Int32)  (k4 : (Int32 × Int32) → Option Int32) : Nat → (Int32 × Int32) → Option Int32 := lp (g_X1_findAt_L15 M q0 x1 x3 k4)
def g_X1_findAt_L4 (M : Mem) (q0 : Nat) (x1 : Int32)   (k4 : (Int32 × Int32) → Option Int32) (a : Int32 × Int32) : Option Int32 := (fun (x2 : Int32) (x3 : Int32) => if (M q0 0) < x3 then some ((-1)) else f_X1_findAt_L15 M q0 x1 x3 k4 FU (x2, 0)) a.1 a.2
def f_X1_findAt_L4 (M : Mem) (q0 : Nat) (x1 : Int32)   : Nat → (Int32 × Int32) → Option Int32 := lp (g_X1_findAt_L4 M q0 x1)
def f_X1_findAt (M : Mem) (q0 : Nat) (x1 : Int32) : Option Int32 := f_X1_findAt_L4 M q0 x1 FU (0, 0)
def rm_X1_findAt : Room := { frames := 2, cells := 0, slots := 0, locals := 43 }
def g_X3_squeezed_L7 (x0 : Int32) (x1 : Int32)   (k7 : (Int32 × Int32 × Int32) → Option Int32) (a : Int32 × Int32 × Int32) : Option Int32 := (fun (x2 : Int32) (x3 : Int32) (x4 : Int32) => if 9 ≤ x4 then some x2 else bd (f_X6_has x1 x4) (fun z17 => if z17 = 0 then k7 (x2, x3, (x4 + 1)) else bd (f_X6_has x0 x4) (fun z26 => if z26 = 0 then k7 (x2, (x3 + 1), (x4 + 1)) else bd (some (x2 ||| (1 <<< (x3 &&& 31)))) (fun v37 => k7 (v37, (x3 + 1), (x4 + 1)))))) a.1 a.2.1 a.2.2
def f_X3_squeezed_L7 (x0 : Int32) (x1 : Int32)   : Nat → (Int32 × Int32 × Int32) → Option Int32 := lp (g_X3_squeezed_L7 x0 x1)
def f_X3_squeezed (x0 : Int32) (x1 : Int32) : Option Int32 := f_X3_squeezed_L7 x0 x1 FU (0, 0, 0)
def rm_X3_squeezed : Room := { frames := 1, cells := 0, slots := 0, locals := 21 }
def g_X3_retain_L4 (q0 : Nat) (x1 : Int32)   (k4 : (Int32 × Int32 × Mem) → Option Mem) (a : Int32 × Int32 × Mem) : Option Mem := (fun (x2 : Int32) (x3 : Int32) (M : Mem) => if (M q0 0) ≤ x3 then bd (some (upM M q0 0 x2)) (fun M59 => some M59) else bd (f_X6_has x1 x3) (fun z14 => if z14 = 0 then k4 (x2, (x3 + 1), M) else chk (inb x3 9) (bd (f_X3_squeezed (M (q0 + 1) x3.toNatClampNeg) x1) (fun z32 => chk (inb x2 9) (bd (some (upM M (q0 + 1) x2.toNatClampNeg z32)) (fun M35 => chk (inb x3 9) (chk (inb x2 9) (bd (some (upM M35 (q0 + 2) x2.toNatClampNeg (M35 (q0 + 2) x3.toNatClampNeg))) (fun M47 => k4 ((x2 + 1), (x3 + 1), M47)))))))))) a.1 a.2.1 a.2.2
def f_X3_retain_L4 (q0 : Nat) (x1 : Int32)   : Nat → (Int32 × Int32 × Mem) → Option Mem := lp (g_X3_retain_L4 q0 x1)
def f_X3_retain (M : Mem) (q0 : Nat) (x1 : Int32) : Option Mem := f_X3_retain_L4 q0 x1 FU (0, 0, M)
def rm_X3_retain : Room := { frames := 2, cells := 0, slots := 0, locals := 45 }
def g_X7_levelOf_L5 (M : Mem) (x1 : Int32) (x2 : Int32) (rec : (Mem × Int32 × Int32) → Option Int32)  (k5 : (Int32 × Int32) → Option Int32) (a : Int32 × Int32) : Option Int32 := (fun (x3 : Int32) (x4 : Int32) => chk (inb x1 5) (if (M 48 x1.toNatClampNeg) ≤ x4 then some (x3 + 1) else chk (inb x1 5) (chk (inb x4 9) (chk (inb x2 9) (if (M ((56 + 10 * x1.toNatClampNeg) + 1 + x4.toNatClampNeg) x2.toNatClampNeg) = 0 then if 0 ≤ x3 then k5 (x3, (x4 + 1)) else k5 (0, (x4 + 1)) else bd (rec (M, x1, x4)) (fun z34 => if z34 ≤ x3 then k5 (x3, (x4 + 1)) else k5 (z34, (x4 + 1)))))))) a.1 a.2
def f_X7_levelOf_L5 (M : Mem) (x1 : Int32) (x2 : Int32) (rec : (Mem × Int32 × Int32) → Option Int32)  : Nat → (Int32 × Int32) → Option Int32 := lp (g_X7_levelOf_L5 M x1 x2 rec)
def b_X7_levelOf (rec : (Mem × Int32 × Int32) → Option Int32) (a : Mem × Int32 × Int32) : Option Int32 := (fun (M : Mem) (x1 : Int32) (x2 : Int32) => f_X7_levelOf_L5 M x1 x2 rec FU (0, 0)) a.1 a.2.1 a.2.2
def f_X7_levelOf : Nat → (Mem × Int32 × Int32) → Option Int32 := lp b_X7_levelOf
def rm_X7_levelOf (n : Nat) : Room := { frames := 0 + n, cells := 0, slots := 0, locals := 0 + 25 * n }
def f_X3_isBelow (M : Mem) (q0 : Nat) (x1 : Int32) (x2 : Int32) : Option Int32 := chk (inb x2 9) (bd (f_X6_has (M (q0 + 1) x2.toNatClampNeg) x1) (fun z7 => chk (isb z7) (some z7)))
def rm_X3_isBelow : Room := { frames := 1, cells := 0, slots := 0, locals := 21 }
def g_X3_pairCount_L4 (M : Mem) (q0 : Nat)   (k4 : (Int32 × Int32) → Option Int32) (a : Int32 × Int32) : Option Int32 := (fun (x1 : Int32) (x2 : Int32) => if (M q0 0) ≤ x2 then some x1 else chk (inb x2 9) (bd (f_J6_bitCount_0f7a4 (M (q0 + 1) x2.toNatClampNeg)) (fun z19 => bd (some (x1 + z19)) (fun v23 => k4 (v23, (x2 + 1)))))) a.1 a.2
def f_X3_pairCount_L4 (M : Mem) (q0 : Nat)   : Nat → (Int32 × Int32) → Option Int32 := lp (g_X3_pairCount_L4 M q0)
def f_X3_pairCount (M : Mem) (q0 : Nat) : Option Int32 := f_X3_pairCount_L4 M q0 FU (0, 0)
def rm_X3_pairCount : Room := { frames := 1, cells := 0, slots := 0, locals := 20 }
def g_X3_link_L37 (q0 : Nat) (x2 : Int32) (x3 : Int32) (x4 : Int32)   (k37 : (Int32 × Mem) → Option (Int32 × Mem)) (a : Int32 × Mem) : Option (Int32 × Mem) := (fun (x5 : Int32) (M : Mem) => if (M q0 0) ≤ x5 then bd (f_X3_pairCount M q0) (fun z81 => some (z81 - x3, M)) else if x5 = x2 then chk (inb x5 9) (chk (inb x5 9) (bd (some (upM M (q0 + 1) x5.toNatClampNeg ((M (q0 + 1) x5.toNatClampNeg) ||| x4))) (fun M73 => k37 ((x5 + 1), M73)))) else bd (f_X3_isBelow M q0 x2 x5) (fun z56 => if z56 = 0 then k37 ((x5 + 1), M) else chk (inb x5 9) (chk (inb x5 9) (bd (some (upM M (q0 + 1) x5.toNatClampNeg ((M (q0 + 1) x5.toNatClampNeg) ||| x4))) (fun M73 => k37 ((x5 + 1), M73)))))) a.1 a.2
def f_X3_link_L37 (q0 : Nat) (x2 : Int32) (x3 : Int32) (x4 : Int32)   : Nat → (Int32 × Mem) → Option (Int32 × Mem) := lp (g_X3_link_L37 q0 x2 x3 x4)
def f_X3_link (M : Mem) (q0 : Nat) (x1 : Int32) (x2 : Int32) : Option (Int32 × Mem) := if x1 = x2 then some ((-9), M) else bd (f_X3_isBelow M q0 x2 x1) (fun z8 => if z8 = 0 then bd (f_X3_pairCount M q0) (fun z18 => chk (inb x1 9) (bd (some ((M (q0 + 1) x1.toNatClampNeg) ||| (1 <<< (x1 &&& 31)))) (fun v32 => f_X3_link_L37 q0 x2 z18 v32 FU (0, M)))) else some ((-9), M))
def rm_X3_link : Room := { frames := 2, cells := 0, slots := 0, locals := 43 }
section W1
variable {p : Program} {l : Launch} {e : Env} {s : State} {m : MethodId} {args : Array Value} {below : List Frame} {meth : Method} {c : Code} {B : Nat} {D : va_G} {Y : Nat → ClassId} {o : Ou}
set_option maxRecDepth 100000 in
theorem m_X6_has (l : Launch) (B : Nat) (D : va_G) (Y : Nat → ClassId) (o : Ou) {M0 : Mem} {x0 : Int32} {x1 : Int32} {r : Int32}  (hf : f_X6_has x0 x1 = some r) : MW l yX6_has cX6_has 2 (some .boolean) rm_X6_has B D Y o [.int x0, .int x1] M0 M0 (some (.int r)) := by
  refine ofAt (L0 := [(0, .int x0), (1, .int x1)]) (by decide +kernel) (Nat.le_of_ble_eq_true rfl) rfl (fun p e s m args below meth c C hr hk => ?_)
  dsimp only [f_X6_has] at hf
  refine A_iload_n C (pc := 0) 0 rfl dX6_has_0 ?_
  refine A_iload_n C (pc := 1) 1 rfl dX6_has_1 ?_
  refine A_ishr C (pc := 2) dX6_has_2 ?_
  refine A_iconst C (pc := 3) ic_1 dX6_has_3 ?_
  refine A_iand C (pc := 4) dX6_has_4 ?_
  refine A_if_eq C (pc := 5) 12 (by decide) dX6_has_5 hf (fun _ hf => ?_) (fun _ hf => ?_)
  · refine A_iconst C (pc := 12) ic_0 dX6_has_12 ?_
    exact R_iP C (pc := 13) hr hk nz_0 dX6_has_13 hf
  · refine A_iconst C (pc := 8) ic_1 dX6_has_8 ?_
    refine A_goto C (pc := 9) 13 (by decide) dX6_has_9 ?_
    exact R_iP C (pc := 13) hr hk nz_1 dX6_has_13 hf
set_option maxRecDepth 100000 in
theorem m_X6_isWithin (l : Launch) (B : Nat) (D : va_G) (Y : Nat → ClassId) (o : Ou) {M0 : Mem} {x0 : Int32} {x1 : Int32} {r : Int32}  (hf : f_X6_isWithin x0 x1 = some r) : MW l yX6_isWithin cX6_isWithin 2 (some .boolean) rm_X6_isWithin B D Y o [.int x0, .int x1] M0 M0 (some (.int r)) := by
  refine ofAt (L0 := [(0, .int x0), (1, .int x1)]) (by decide +kernel) (Nat.le_of_ble_eq_true rfl) rfl (fun p e s m args below meth c C hr hk => ?_)
  dsimp only [f_X6_isWithin] at hf
  refine A_iload_n C (pc := 0) 0 rfl dX6_isWithin_0 ?_
  refine A_iload_n C (pc := 1) 1 rfl dX6_isWithin_1 ?_
  refine A_iconst C (pc := 2) ic_m1 dX6_isWithin_2 ?_
  refine A_ixor C (pc := 3) dX6_isWithin_3 ?_
  refine A_iand C (pc := 4) dX6_isWithin_4 ?_
  refine A_if_ne C (pc := 5) 12 (by decide) dX6_isWithin_5 hf (fun _ hf => ?_) (fun _ hf => ?_)
  · refine A_iconst C (pc := 12) ic_0 dX6_isWithin_12 ?_
    exact R_iP C (pc := 13) hr hk nz_0 dX6_isWithin_13 hf
  · refine A_iconst C (pc := 8) ic_1 dX6_isWithin_8 ?_
    refine A_goto C (pc := 9) 13 (by decide) dX6_isWithin_9 ?_
    exact R_iP C (pc := 13) hr hk nz_1 dX6_isWithin_13 hf
set_option maxRecDepth 100000 in
theorem w_X3_isClosedBelow_L2 {M : Mem} {q0 : Nat} {x1 : Int32} {r : Int32} (C : Cx p s m args c cX3_isClosedBelow 3 RX3 B D Y) (hr : meth.sig.returnType = (some .boolean)) (hk : meth.locks = false) (hq0 : kd q0 = 2) : ∀ (n : Nat) (x2 : Int32), f_X3_isClosedBelow_L2 M q0 x1 n x2 = some r → At p l e rm_X3_isClosedBelow s m args below meth c 3 0 0 (QQ below args s B D Y M o (some (.int r))) B D Y o 2 M [(0, .ref (B + q0)), (1, .int x1), (2, .int x2)] [] := by
  intro n
  induction n with
  | zero => intro x2 hf; exact nomatch (show (none : Option Int32) = some r from hf)
  | succ n hk2 =>
    intro x2 hf
    replace hf : g_X3_isClosedBelow_L2 M q0 x1 (f_X3_isClosedBelow_L2 M q0 x1 n) x2 = some r := hf
    dsimp only [g_X3_isClosedBelow_L2] at hf
    refine A_iload_n C (pc := 2) 2 rfl dX3_isClosedBelow_2 ?_
    refine A_aload_n C (pc := 3) 0 rfl dX3_isClosedBelow_3 ?_
    refine A_g3_0 C (pc := 4) hq0 kf_X3_22 dX3_isClosedBelow_4 ?_
    refine A_icmp_ge C (pc := 7) 39 (by decide) dX3_isClosedBelow_7 hf (fun _ hf => ?_) (fun _ hf => ?_)
    · refine A_iconst C (pc := 39) ic_1 dX3_isClosedBelow_39 ?_
      exact R_iP C (pc := 40) hr hk nz_1 dX3_isClosedBelow_40 hf
    · refine A_iload_n C (pc := 10) 1 rfl dX3_isClosedBelow_10 ?_
      refine A_iload_n C (pc := 11) 2 rfl dX3_isClosedBelow_11 ?_
      obtain ⟨z12, h12, hf⟩ := bd_i hf
      refine A_callS1 C (pc := 12) (A := [.int x1, .int x2]) (rest := []) k_X3_26 ky_X6_has ks_X6_has (m_X6_has l B D Y o  h12) rfl rfl (Nat.le_of_ble_eq_true rfl) ⟨rfl, rfl, Nat.le_of_ble_eq_true rfl, Nat.le_of_ble_eq_true rfl⟩ ⟨Nat.zero_le _, Nat.zero_le _⟩ dX3_isClosedBelow_12 ?_
      refine A_if_eq C (pc := 15) 33 (by decide) dX3_isClosedBelow_15 hf (fun _ hf => ?_) (fun _ hf => ?_)
      · refine A_iinc C (pc := 33) (k0 := 2) [(0, .ref (B + q0)), (1, .int x1), (2, .int (x2 + 1))] rfl ic_1 (by decide) [1, 2, 0] rfl dX3_isClosedBelow_33 ?_
        refine A_goto C (pc := 36) 2 (by decide) dX3_isClosedBelow_36 ?_
        exact hk2 _ hf
      · refine A_aload_n C (pc := 18) 0 rfl dX3_isClosedBelow_18 ?_
        refine A_g3_1 C (pc := 19) hq0 kf_X3_9 dX3_isClosedBelow_19 ?_
        refine A_iload_n C (pc := 22) 2 rfl dX3_isClosedBelow_22 ?_
        obtain ⟨c23, hf⟩ := chk_i hf
        refine A_iald C (pc := 23) (iO1 hq0) c23 dX3_isClosedBelow_23 ?_
        refine A_iload_n C (pc := 24) 1 rfl dX3_isClosedBelow_24 ?_
        obtain ⟨z25, h25, hf⟩ := bd_i hf
        refine A_callS1 C (pc := 25) (A := [.int (M (q0 + 1) x2.toNatClampNeg), .int x1]) (rest := []) k_X3_71 ky_X6_isWithin ks_X6_isWithin (m_X6_isWithin l B D Y o  h25) rfl rfl (Nat.le_of_ble_eq_true rfl) ⟨rfl, rfl, Nat.le_of_ble_eq_true rfl, Nat.le_of_ble_eq_true rfl⟩ ⟨Nat.zero_le _, Nat.zero_le _⟩ dX3_isClosedBelow_25 ?_
        refine A_if_ne C (pc := 28) 33 (by decide) dX3_isClosedBelow_28 hf (fun _ hf => ?_) (fun _ hf => ?_)
        · refine A_iinc C (pc := 33) (k0 := 2) [(0, .ref (B + q0)), (1, .int x1), (2, .int (x2 + 1))] rfl ic_1 (by decide) [1, 2, 0] rfl dX3_isClosedBelow_33 ?_
          refine A_goto C (pc := 36) 2 (by decide) dX3_isClosedBelow_36 ?_
          exact hk2 _ hf
        · refine A_iconst C (pc := 31) ic_0 dX3_isClosedBelow_31 ?_
          exact R_iP C (pc := 32) hr hk nz_0 dX3_isClosedBelow_32 hf
set_option maxRecDepth 100000 in
theorem m_X3_isClosedBelow (l : Launch) (B : Nat) (D : va_G) (Y : Nat → ClassId) (o : Ou) {M : Mem} {q0 : Nat} {x1 : Int32} {r : Int32} (hq0 : kd q0 = 2) (hf : f_X3_isClosedBelow M q0 x1 = some r) : MW l yX3_isClosedBelow cX3_isClosedBelow 3 (some .boolean) rm_X3_isClosedBelow B D Y o [.ref (B + q0), .int x1] M M (some (.int r)) := by
  refine ofAt (L0 := [(0, .ref (B + q0)), (1, .int x1)]) (by decide +kernel) (Nat.le_of_ble_eq_true rfl) rfl (fun p e s m args below meth c C hr hk => ?_)
  dsimp only [f_X3_isClosedBelow] at hf
  refine A_iconst C (pc := 0) ic_0 dX3_isClosedBelow_0 ?_
  refine A_istore_n C (pc := 1) [(0, .ref (B + q0)), (1, .int x1), (2, .int 0)] rfl (by decide) [1, 2, 0] rfl dX3_isClosedBelow_1 ?_
  exact w_X3_isClosedBelow_L2 C hr hk hq0 FU _  hf
set_option maxRecDepth 100000 in
theorem m_X3_setLimit (l : Launch) (B : Nat) (D : va_G) (Y : Nat → ClassId) (o : Ou) {M : Mem} {q0 : Nat} {r : Int32} (hq0 : kd q0 = 2) (hf : f_X3_setLimit M q0 = some r) : MW l yX3_setLimit cX3_setLimit 1 (some .int) rm_X3_setLimit B D Y o [.ref (B + q0)] M M (some (.int r)) := by
  refine ofAt (L0 := [(0, .ref (B + q0))]) (by decide +kernel) (Nat.le_of_ble_eq_true rfl) rfl (fun p e s m args below meth c C hr hk => ?_)
  dsimp only [f_X3_setLimit] at hf
  refine A_iconst C (pc := 0) ic_1 dX3_setLimit_0 ?_
  refine A_aload_n C (pc := 1) 0 rfl dX3_setLimit_1 ?_
  refine A_g3_0 C (pc := 2) hq0 kf_X3_22 dX3_setLimit_2 ?_
  refine A_ishl C (pc := 5) dX3_setLimit_5 ?_
  exact R_iP C (pc := 6) hr hk rfl dX3_setLimit_6 hf
set_option maxRecDepth 100000 in
theorem m_J6_bitCount_0f7a4 (l : Launch) (B : Nat) (D : va_G) (Y : Nat → ClassId) (o : Ou) {M0 : Mem} {x0 : Int32} {r : Int32}  (hf : f_J6_bitCount_0f7a4 x0 = some r) : MW l yJ6_bitCount_0f7a4 cJ6_bitCount_0f7a4 1 (some .int) rm_J6_bitCount_0f7a4 B D Y o [.int x0] M0 M0 (some (.int r)) := by
  refine ofAt (L0 := [(0, .int x0)]) (by decide +kernel) (Nat.le_of_ble_eq_true rfl) rfl (fun p e s m args below meth c C hr hk => ?_)
  dsimp only [f_J6_bitCount_0f7a4] at hf
  refine A_iload_n C (pc := 0) 0 rfl dJ6_bitCount_0f7a4_0 ?_
  refine A_iload_n C (pc := 1) 0 rfl dJ6_bitCount_0f7a4_1 ?_
  refine A_iconst C (pc := 2) ic_1 dJ6_bitCount_0f7a4_2 ?_
  refine A_iushr C (pc := 3) dJ6_bitCount_0f7a4_3 ?_
  refine A_ldcw C (pc := 4) kk_J6_265 dJ6_bitCount_0f7a4_4 ?_
  refine A_iand C (pc := 7) dJ6_bitCount_0f7a4_7 ?_
  refine A_isub C (pc := 8) dJ6_bitCount_0f7a4_8 ?_
  obtain ⟨v9, e9, hf⟩ := bd_i hf
  refine A_nmI e9 ?_
  refine A_istore_n C (pc := 9) [(0, .int v9)] rfl (by decide) [0] rfl dJ6_bitCount_0f7a4_9 ?_
  refine A_iload_n C (pc := 10) 0 rfl dJ6_bitCount_0f7a4_10 ?_
  refine A_ldcw C (pc := 11) kk_J6_266 dJ6_bitCount_0f7a4_11 ?_
  refine A_iand C (pc := 14) dJ6_bitCount_0f7a4_14 ?_
  refine A_iload_n C (pc := 15) 0 rfl dJ6_bitCount_0f7a4_15 ?_
  refine A_iconst C (pc := 16) ic_2 dJ6_bitCount_0f7a4_16 ?_
  refine A_iushr C (pc := 17) dJ6_bitCount_0f7a4_17 ?_
  refine A_ldcw C (pc := 18) kk_J6_266 dJ6_bitCount_0f7a4_18 ?_
  refine A_iand C (pc := 21) dJ6_bitCount_0f7a4_21 ?_
  refine A_iadd C (pc := 22) dJ6_bitCount_0f7a4_22 ?_
  obtain ⟨v23, e23, hf⟩ := bd_i hf
  refine A_nmI e23 ?_
  refine A_istore_n C (pc := 23) [(0, .int v23)] rfl (by decide) [0] rfl dJ6_bitCount_0f7a4_23 ?_
  refine A_iload_n C (pc := 24) 0 rfl dJ6_bitCount_0f7a4_24 ?_
  refine A_iload_n C (pc := 25) 0 rfl dJ6_bitCount_0f7a4_25 ?_
  refine A_iconst C (pc := 26) ic_4 dJ6_bitCount_0f7a4_26 ?_
  refine A_iushr C (pc := 27) dJ6_bitCount_0f7a4_27 ?_
  refine A_iadd C (pc := 28) dJ6_bitCount_0f7a4_28 ?_
  refine A_ldcw C (pc := 29) kk_J6_267 dJ6_bitCount_0f7a4_29 ?_
  refine A_iand C (pc := 32) dJ6_bitCount_0f7a4_32 ?_
  obtain ⟨v33, e33, hf⟩ := bd_i hf
  refine A_nmI e33 ?_
  refine A_istore_n C (pc := 33) [(0, .int v33)] rfl (by decide) [0] rfl dJ6_bitCount_0f7a4_33 ?_
  refine A_iload_n C (pc := 34) 0 rfl dJ6_bitCount_0f7a4_34 ?_
  refine A_iload_n C (pc := 35) 0 rfl dJ6_bitCount_0f7a4_35 ?_
  refine A_bipush C (pc := 36) bc_8 dJ6_bitCount_0f7a4_36 ?_
  refine A_iushr C (pc := 38) dJ6_bitCount_0f7a4_38 ?_
  refine A_iadd C (pc := 39) dJ6_bitCount_0f7a4_39 ?_
  obtain ⟨v40, e40, hf⟩ := bd_i hf
  refine A_nmI e40 ?_
  refine A_istore_n C (pc := 40) [(0, .int v40)] rfl (by decide) [0] rfl dJ6_bitCount_0f7a4_40 ?_
  refine A_iload_n C (pc := 41) 0 rfl dJ6_bitCount_0f7a4_41 ?_
  refine A_iload_n C (pc := 42) 0 rfl dJ6_bitCount_0f7a4_42 ?_
  refine A_bipush C (pc := 43) bc_16 dJ6_bitCount_0f7a4_43 ?_
  refine A_iushr C (pc := 45) dJ6_bitCount_0f7a4_45 ?_
  refine A_iadd C (pc := 46) dJ6_bitCount_0f7a4_46 ?_
  obtain ⟨v47, e47, hf⟩ := bd_i hf
  refine A_nmI e47 ?_
  refine A_istore_n C (pc := 47) [(0, .int v47)] rfl (by decide) [0] rfl dJ6_bitCount_0f7a4_47 ?_
  refine A_iload_n C (pc := 48) 0 rfl dJ6_bitCount_0f7a4_48 ?_
  refine A_bipush C (pc := 49) bc_63 dJ6_bitCount_0f7a4_49 ?_
  refine A_iand C (pc := 51) dJ6_bitCount_0f7a4_51 ?_
  exact R_iP C (pc := 52) hr hk rfl dJ6_bitCount_0f7a4_52 hf
set_option maxRecDepth 100000 in
theorem w_X1_findAt_L15 {M : Mem} {q0 : Nat} {x1 : Int32} {x3 : Int32} {r : Int32} (C : Cx p s m args c cX1_findAt 5 RX1 B D Y) (hr : meth.sig.returnType = (some .int)) (hk : meth.locks = false) (hq0 : kd q0 = 2) {k4 : (Int32 × Int32) → Option Int32} (hk4 : ∀ (x2 : Int32) (x3 : Int32), k4 (x2, x3) = some r → At p l e rm_X1_findAt s m args below meth c 5 0 0 (QQ below args s B D Y M o (some (.int r))) B D Y o 4 M [(0, .ref (B + q0)), (1, .int x1), (2, .int x2), (3, .int x3)] []) : ∀ (n : Nat) (x2 : Int32) (x4 : Int32), f_X1_findAt_L15 M q0 x1 x3 k4 n (x2, x4) = some r → At p l e rm_X1_findAt s m args below meth c 5 0 0 (QQ below args s B D Y M o (some (.int r))) B D Y o 15 M [(0, .ref (B + q0)), (1, .int x1), (2, .int x2), (3, .int x3), (4, .int x4)] [] := by
  intro n
  induction n with
  | zero => intro x2 x4 hf; exact nomatch (show (none : Option Int32) = some r from hf)
  | succ n hk15 =>
    intro x2 x4 hf
    replace hf : g_X1_findAt_L15 M q0 x1 x3 k4 (f_X1_findAt_L15 M q0 x1 x3 k4 n) (x2, x4) = some r := hf
    dsimp only [g_X1_findAt_L15] at hf
    refine A_iload C (pc := 15) 4 rfl dX1_findAt_15 ?_
    refine A_aload_n C (pc := 17) 0 rfl dX1_findAt_17 ?_
    obtain ⟨z18, h18, hf⟩ := bd_i hf
    refine A_callV1 C (pc := 18) (A := []) (rest := [.int x4]) k_X1_15 ky_X3_setLimit kv_X3_setLimit (m_X3_setLimit l B D Y o hq0 h18) (kO hq0).1 (ent2 hq0) rfl rfl rfl (Nat.le_of_ble_eq_true rfl) ⟨rfl, rfl, Nat.le_of_ble_eq_true rfl, Nat.le_of_ble_eq_true rfl⟩ ⟨Nat.zero_le _, Nat.zero_le _⟩ dX1_findAt_18 ?_
    refine A_icmp_ge C (pc := 21) 59 (by decide) dX1_findAt_21 hf (fun _ hf => ?_) (fun _ hf => ?_)
    · refine A_iinc C (pc := 59) (k0 := 3) [(0, .ref (B + q0)), (1, .int x1), (2, .int x2), (3, .int (x3 + 1))] rfl ic_1 (by decide) [1, 2, 3, 0] rfl dX1_findAt_59 ?_
      refine A_goto C (pc := 62) 4 (by decide) dX1_findAt_62 ?_
      exact hk4 _ _ hf
    · refine A_iload C (pc := 24) 4 rfl dX1_findAt_24 ?_
      obtain ⟨z26, h26, hf⟩ := bd_i hf
      refine A_callS1 C (pc := 26) (A := [.int x4]) (rest := []) k_X1_9 ky_J6_bitCount_0f7a4 ks_J6_bitCount_0f7a4 (m_J6_bitCount_0f7a4 l B D Y o  h26) rfl rfl (Nat.le_of_ble_eq_true rfl) ⟨rfl, rfl, Nat.le_of_ble_eq_true rfl, Nat.le_of_ble_eq_true rfl⟩ ⟨Nat.zero_le _, Nat.zero_le _⟩ dX1_findAt_26 ?_
      refine A_iload_n C (pc := 29) 3 rfl dX1_findAt_29 ?_
      refine A_icmp_ne C (pc := 30) 53 (by decide) dX1_findAt_30 hf (fun _ hf => ?_) (fun _ hf => ?_)
      · refine A_iinc C (pc := 53) (k0 := 4) [(0, .ref (B + q0)), (1, .int x1), (2, .int x2), (3, .int x3), (4, .int (x4 + 1))] rfl ic_1 (by decide) [1, 2, 3, 4, 0] rfl dX1_findAt_53 ?_
        refine A_goto C (pc := 56) 15 (by decide) dX1_findAt_56 ?_
        exact hk15 _ _ hf
      · refine A_aload_n C (pc := 33) 0 rfl dX1_findAt_33 ?_
        refine A_iload C (pc := 34) 4 rfl dX1_findAt_34 ?_
        obtain ⟨z36, h36, hf⟩ := bd_i hf
        refine A_callV1 C (pc := 36) (A := [.int x4]) (rest := []) k_X1_21 ky_X3_isClosedBelow kv_X3_isClosedBelow (m_X3_isClosedBelow l B D Y o hq0 h36) (kO hq0).1 (ent2 hq0) rfl rfl rfl (Nat.le_of_ble_eq_true rfl) ⟨rfl, rfl, Nat.le_of_ble_eq_true rfl, Nat.le_of_ble_eq_true rfl⟩ ⟨Nat.zero_le _, Nat.zero_le _⟩ dX1_findAt_36 ?_
        refine A_if_eq C (pc := 39) 53 (by decide) dX1_findAt_39 hf (fun _ hf => ?_) (fun _ hf => ?_)
        · refine A_iinc C (pc := 53) (k0 := 4) [(0, .ref (B + q0)), (1, .int x1), (2, .int x2), (3, .int x3), (4, .int (x4 + 1))] rfl ic_1 (by decide) [1, 2, 3, 4, 0] rfl dX1_findAt_53 ?_
          refine A_goto C (pc := 56) 15 (by decide) dX1_findAt_56 ?_
          exact hk15 _ _ hf
        · refine A_iload_n C (pc := 42) 2 rfl dX1_findAt_42 ?_
          refine A_iload_n C (pc := 43) 1 rfl dX1_findAt_43 ?_
          refine A_icmp_ne C (pc := 44) 50 (by decide) dX1_findAt_44 hf (fun _ hf => ?_) (fun _ hf => ?_)
          · refine A_iinc C (pc := 50) (k0 := 2) [(0, .ref (B + q0)), (1, .int x1), (2, .int (x2 + 1)), (3, .int x3), (4, .int x4)] rfl ic_1 (by decide) [1, 2, 0, 3, 4] rfl dX1_findAt_50 ?_
            refine A_iinc C (pc := 53) (k0 := 4) [(0, .ref (B + q0)), (1, .int x1), (2, .int (x2 + 1)), (3, .int x3), (4, .int (x4 + 1))] rfl ic_1 (by decide) [1, 2, 3, 4, 0] rfl dX1_findAt_53 ?_
            refine A_goto C (pc := 56) 15 (by decide) dX1_findAt_56 ?_
            exact hk15 _ _ hf
          · refine A_iload C (pc := 47) 4 rfl dX1_findAt_47 ?_
            exact R_iP C (pc := 49) hr hk rfl dX1_findAt_49 hf
set_option maxRecDepth 100000 in
theorem w_X1_findAt_L4 {M : Mem} {q0 : Nat} {x1 : Int32} {r : Int32} (C : Cx p s m args c cX1_findAt 5 RX1 B D Y) (hr : meth.sig.returnType = (some .int)) (hk : meth.locks = false) (hq0 : kd q0 = 2) : ∀ (n : Nat) (x2 : Int32) (x3 : Int32), f_X1_findAt_L4 M q0 x1 n (x2, x3) = some r → At p l e rm_X1_findAt s m args below meth c 5 0 0 (QQ below args s B D Y M o (some (.int r))) B D Y o 4 M [(0, .ref (B + q0)), (1, .int x1), (2, .int x2), (3, .int x3)] [] := by
  intro n
  induction n with
  | zero => intro x2 x3 hf; exact nomatch (show (none : Option Int32) = some r from hf)
  | succ n hk4 =>
    intro x2 x3 hf
    replace hf : g_X1_findAt_L4 M q0 x1 (f_X1_findAt_L4 M q0 x1 n) (x2, x3) = some r := hf
    dsimp only [g_X1_findAt_L4] at hf
    refine A_iload_n C (pc := 4) 3 rfl dX1_findAt_4 ?_
    refine A_aload_n C (pc := 5) 0 rfl dX1_findAt_5 ?_
    refine A_g3_0 C (pc := 6) hq0 kf_X1_31 dX1_findAt_6 ?_
    refine A_icmp_gt C (pc := 9) 65 (by decide) dX1_findAt_9 hf (fun _ hf => ?_) (fun _ hf => ?_)
    · refine A_iconst C (pc := 65) ic_m1 dX1_findAt_65 ?_
      exact R_iP C (pc := 66) hr hk rfl dX1_findAt_66 hf
    · refine A_iconst C (pc := 12) ic_0 dX1_findAt_12 ?_
      refine A_istore C (pc := 13) [(0, .ref (B + q0)), (1, .int x1), (2, .int x2), (3, .int x3), (4, .int 0)] (by decide) [1, 2, 3, 4, 0] rfl dX1_findAt_13 ?_
      exact w_X1_findAt_L15 C hr hk hq0 hk4 FU _ _  hf
set_option maxRecDepth 100000 in
theorem m_X1_findAt (l : Launch) (B : Nat) (D : va_G) (Y : Nat → ClassId) (o : Ou) {M : Mem} {q0 : Nat} {x1 : Int32} {r : Int32} (hq0 : kd q0 = 2) (hf : f_X1_findAt M q0 x1 = some r) : MW l yX1_findAt cX1_findAt 5 (some .int) rm_X1_findAt B D Y o [.ref (B + q0), .int x1] M M (some (.int r)) := by
  refine ofAt (L0 := [(0, .ref (B + q0)), (1, .int x1)]) (by decide +kernel) (Nat.le_of_ble_eq_true rfl) rfl (fun p e s m args below meth c C hr hk => ?_)
  dsimp only [f_X1_findAt] at hf
  refine A_iconst C (pc := 0) ic_0 dX1_findAt_0 ?_
  refine A_istore_n C (pc := 1) [(0, .ref (B + q0)), (1, .int x1), (2, .int 0)] rfl (by decide) [1, 2, 0] rfl dX1_findAt_1 ?_
  refine A_iconst C (pc := 2) ic_0 dX1_findAt_2 ?_
  refine A_istore_n C (pc := 3) [(0, .ref (B + q0)), (1, .int x1), (2, .int 0), (3, .int 0)] rfl (by decide) [1, 2, 3, 0] rfl dX1_findAt_3 ?_
  exact w_X1_findAt_L4 C hr hk hq0 FU _ _  hf
set_option maxRecDepth 100000 in
theorem w_X3_squeezed_L7 {M0 : Mem} {x0 : Int32} {x1 : Int32} {r : Int32} (C : Cx p s m args c cX3_squeezed 5 RX3 B D Y) (hr : meth.sig.returnType = (some .int)) (hk : meth.locks = false)  : ∀ (n : Nat) (x2 : Int32) (x3 : Int32) (x4 : Int32), f_X3_squeezed_L7 x0 x1 n (x2, x3, x4) = some r → At p l e rm_X3_squeezed s m args below meth c 5 0 0 (QQ below args s B D Y M0 o (some (.int r))) B D Y o 7 M0 [(0, .int x0), (1, .int x1), (2, .int x2), (3, .int x3), (4, .int x4)] [] := by
  intro n
  induction n with
  | zero => intro x2 x3 x4 hf; exact nomatch (show (none : Option Int32) = some r from hf)
  | succ n hk7 =>
    intro x2 x3 x4 hf
    replace hf : g_X3_squeezed_L7 x0 x1 (f_X3_squeezed_L7 x0 x1 n) (x2, x3, x4) = some r := hf
    dsimp only [g_X3_squeezed_L7] at hf
    refine A_iload C (pc := 7) 4 rfl dX3_squeezed_7 ?_
    refine A_bipush C (pc := 9) bc_9 dX3_squeezed_9 ?_
    refine A_icmp_ge C (pc := 11) 47 (by decide) dX3_squeezed_11 hf (fun _ hf => ?_) (fun _ hf => ?_)
    · refine A_iload_n C (pc := 47) 2 rfl dX3_squeezed_47 ?_
      exact R_iP C (pc := 48) hr hk rfl dX3_squeezed_48 hf
    · refine A_iload_n C (pc := 14) 1 rfl dX3_squeezed_14 ?_
      refine A_iload C (pc := 15) 4 rfl dX3_squeezed_15 ?_
      obtain ⟨z17, h17, hf⟩ := bd_i hf
      refine A_callS1 C (pc := 17) (A := [.int x1, .int x4]) (rest := []) k_X3_26 ky_X6_has ks_X6_has (m_X6_has l B D Y o  h17) rfl rfl (Nat.le_of_ble_eq_true rfl) ⟨rfl, rfl, Nat.le_of_ble_eq_true rfl, Nat.le_of_ble_eq_true rfl⟩ ⟨Nat.zero_le _, Nat.zero_le _⟩ dX3_squeezed_17 ?_
      refine A_if_eq C (pc := 20) 41 (by decide) dX3_squeezed_20 hf (fun _ hf => ?_) (fun _ hf => ?_)
      · refine A_iinc C (pc := 41) (k0 := 4) [(0, .int x0), (1, .int x1), (2, .int x2), (3, .int x3), (4, .int (x4 + 1))] rfl ic_1 (by decide) [1, 2, 3, 4, 0] rfl dX3_squeezed_41 ?_
        refine A_goto C (pc := 44) 7 (by decide) dX3_squeezed_44 ?_
        exact hk7 _ _ _ hf
      · refine A_iload_n C (pc := 23) 0 rfl dX3_squeezed_23 ?_
        refine A_iload C (pc := 24) 4 rfl dX3_squeezed_24 ?_
        obtain ⟨z26, h26, hf⟩ := bd_i hf
        refine A_callS1 C (pc := 26) (A := [.int x0, .int x4]) (rest := []) k_X3_26 ky_X6_has ks_X6_has (m_X6_has l B D Y o  h26) rfl rfl (Nat.le_of_ble_eq_true rfl) ⟨rfl, rfl, Nat.le_of_ble_eq_true rfl, Nat.le_of_ble_eq_true rfl⟩ ⟨Nat.zero_le _, Nat.zero_le _⟩ dX3_squeezed_26 ?_
        refine A_if_eq C (pc := 29) 38 (by decide) dX3_squeezed_29 hf (fun _ hf => ?_) (fun _ hf => ?_)
        · refine A_iinc C (pc := 38) (k0 := 3) [(0, .int x0), (1, .int x1), (2, .int x2), (3, .int (x3 + 1)), (4, .int x4)] rfl ic_1 (by decide) [1, 2, 3, 0, 4] rfl dX3_squeezed_38 ?_
          refine A_iinc C (pc := 41) (k0 := 4) [(0, .int x0), (1, .int x1), (2, .int x2), (3, .int (x3 + 1)), (4, .int (x4 + 1))] rfl ic_1 (by decide) [1, 2, 3, 4, 0] rfl dX3_squeezed_41 ?_
          refine A_goto C (pc := 44) 7 (by decide) dX3_squeezed_44 ?_
          exact hk7 _ _ _ hf
        · refine A_iload_n C (pc := 32) 2 rfl dX3_squeezed_32 ?_
          refine A_iconst C (pc := 33) ic_1 dX3_squeezed_33 ?_
          refine A_iload_n C (pc := 34) 3 rfl dX3_squeezed_34 ?_
          refine A_ishl C (pc := 35) dX3_squeezed_35 ?_
          refine A_ior C (pc := 36) dX3_squeezed_36 ?_
          obtain ⟨v37, e37, hf⟩ := bd_i hf
          refine A_nmI e37 ?_
          refine A_istore_n C (pc := 37) [(0, .int x0), (1, .int x1), (2, .int v37), (3, .int x3), (4, .int x4)] rfl (by decide) [1, 2, 0, 3, 4] rfl dX3_squeezed_37 ?_
          refine A_iinc C (pc := 38) (k0 := 3) [(0, .int x0), (1, .int x1), (2, .int v37), (3, .int (x3 + 1)), (4, .int x4)] rfl ic_1 (by decide) [1, 2, 3, 0, 4] rfl dX3_squeezed_38 ?_
          refine A_iinc C (pc := 41) (k0 := 4) [(0, .int x0), (1, .int x1), (2, .int v37), (3, .int (x3 + 1)), (4, .int (x4 + 1))] rfl ic_1 (by decide) [1, 2, 3, 4, 0] rfl dX3_squeezed_41 ?_
          refine A_goto C (pc := 44) 7 (by decide) dX3_squeezed_44 ?_
          exact hk7 _ _ _ hf
set_option maxRecDepth 100000 in
theorem m_X3_squeezed (l : Launch) (B : Nat) (D : va_G) (Y : Nat → ClassId) (o : Ou) {M0 : Mem} {x0 : Int32} {x1 : Int32} {r : Int32}  (hf : f_X3_squeezed x0 x1 = some r) : MW l yX3_squeezed cX3_squeezed 5 (some .int) rm_X3_squeezed B D Y o [.int x0, .int x1] M0 M0 (some (.int r)) := by
  refine ofAt (L0 := [(0, .int x0), (1, .int x1)]) (by decide +kernel) (Nat.le_of_ble_eq_true rfl) rfl (fun p e s m args below meth c C hr hk => ?_)
  dsimp only [f_X3_squeezed] at hf
  refine A_iconst C (pc := 0) ic_0 dX3_squeezed_0 ?_
  refine A_istore_n C (pc := 1) [(0, .int x0), (1, .int x1), (2, .int 0)] rfl (by decide) [1, 2, 0] rfl dX3_squeezed_1 ?_
  refine A_iconst C (pc := 2) ic_0 dX3_squeezed_2 ?_
  refine A_istore_n C (pc := 3) [(0, .int x0), (1, .int x1), (2, .int 0), (3, .int 0)] rfl (by decide) [1, 2, 3, 0] rfl dX3_squeezed_3 ?_
  refine A_iconst C (pc := 4) ic_0 dX3_squeezed_4 ?_
  refine A_istore C (pc := 5) [(0, .int x0), (1, .int x1), (2, .int 0), (3, .int 0), (4, .int 0)] (by decide) [1, 2, 3, 4, 0] rfl dX3_squeezed_5 ?_
  exact w_X3_squeezed_L7 C hr hk FU _ _ _  hf
set_option maxRecDepth 100000 in
theorem w_X3_retain_L4 {q0 : Nat} {x1 : Int32} {r : Mem} (C : Cx p s m args c cX3_retain 4 RX3 B D Y) (hr : meth.sig.returnType = none) (hk : meth.locks = false) (hq0 : kd q0 = 2) : ∀ (n : Nat) (x2 : Int32) (x3 : Int32) (M : Mem), f_X3_retain_L4 q0 x1 n (x2, x3, M) = some r → At p l e rm_X3_retain s m args below meth c 4 0 0 (QQ below args s B D Y r o none) B D Y o 4 M [(0, .ref (B + q0)), (1, .int x1), (2, .int x2), (3, .int x3)] [] := by
  intro n
  induction n with
  | zero => intro x2 x3 M hf; exact nomatch (show (none : Option Mem) = some r from hf)
  | succ n hk4 =>
    intro x2 x3 M hf
    replace hf : g_X3_retain_L4 q0 x1 (f_X3_retain_L4 q0 x1 n) (x2, x3, M) = some r := hf
    dsimp only [g_X3_retain_L4] at hf
    refine A_iload_n C (pc := 4) 3 rfl dX3_retain_4 ?_
    refine A_aload_n C (pc := 5) 0 rfl dX3_retain_5 ?_
    refine A_g3_0 C (pc := 6) hq0 kf_X3_22 dX3_retain_6 ?_
    refine A_icmp_ge C (pc := 9) 57 (by decide) dX3_retain_9 hf (fun _ hf => ?_) (fun _ hf => ?_)
    · refine A_aload_n C (pc := 57) 0 rfl dX3_retain_57 ?_
      refine A_iload_n C (pc := 58) 2 rfl dX3_retain_58 ?_
      obtain ⟨M59, e59, hf⟩ := bd_i hf
      refine A_p3_0 C (pc := 59) hq0 kf_X3_22 dX3_retain_59 ?_
      refine A_nmM e59 ?_
      exact R_vM C (pc := 62) hr hk dX3_retain_62 hf
    · refine A_iload_n C (pc := 12) 1 rfl dX3_retain_12 ?_
      refine A_iload_n C (pc := 13) 3 rfl dX3_retain_13 ?_
      obtain ⟨z14, h14, hf⟩ := bd_i hf
      refine A_callS1 C (pc := 14) (A := [.int x1, .int x3]) (rest := []) k_X3_26 ky_X6_has ks_X6_has (m_X6_has l B D Y o  h14) rfl rfl (Nat.le_of_ble_eq_true rfl) ⟨rfl, rfl, Nat.le_of_ble_eq_true rfl, Nat.le_of_ble_eq_true rfl⟩ ⟨Nat.zero_le _, Nat.zero_le _⟩ dX3_retain_14 ?_
      refine A_if_eq C (pc := 17) 51 (by decide) dX3_retain_17 hf (fun _ hf => ?_) (fun _ hf => ?_)
      · refine A_iinc C (pc := 51) (k0 := 3) [(0, .ref (B + q0)), (1, .int x1), (2, .int x2), (3, .int (x3 + 1))] rfl ic_1 (by decide) [1, 2, 3, 0] rfl dX3_retain_51 ?_
        refine A_goto C (pc := 54) 4 (by decide) dX3_retain_54 ?_
        exact hk4 _ _ _ hf
      · refine A_aload_n C (pc := 20) 0 rfl dX3_retain_20 ?_
        refine A_g3_1 C (pc := 21) hq0 kf_X3_9 dX3_retain_21 ?_
        refine A_iload_n C (pc := 24) 2 rfl dX3_retain_24 ?_
        refine A_aload_n C (pc := 25) 0 rfl dX3_retain_25 ?_
        refine A_g3_1 C (pc := 26) hq0 kf_X3_9 dX3_retain_26 ?_
        refine A_iload_n C (pc := 29) 3 rfl dX3_retain_29 ?_
        obtain ⟨c30, hf⟩ := chk_i hf
        refine A_iald C (pc := 30) (iO1 hq0) c30 dX3_retain_30 ?_
        refine A_iload_n C (pc := 31) 1 rfl dX3_retain_31 ?_
        obtain ⟨z32, h32, hf⟩ := bd_i hf
        refine A_callS1 C (pc := 32) (A := [.int (M (q0 + 1) x3.toNatClampNeg), .int x1]) (rest := [.int x2, .ref (B + (q0 + 1))]) k_X3_30 ky_X3_squeezed ks_X3_squeezed (m_X3_squeezed l B D Y o  h32) rfl rfl (Nat.le_of_ble_eq_true rfl) ⟨rfl, rfl, Nat.le_of_ble_eq_true rfl, Nat.le_of_ble_eq_true rfl⟩ ⟨Nat.zero_le _, Nat.zero_le _⟩ dX3_retain_32 ?_
        obtain ⟨c35, hf⟩ := chk_i hf
        obtain ⟨M35, e35, hf⟩ := bd_i hf
        refine A_iast C (pc := 35) (iO1 hq0) c35 dX3_retain_35 ?_
        refine A_nmM e35 ?_
        refine A_aload_n C (pc := 36) 0 rfl dX3_retain_36 ?_
        refine A_g3_2 C (pc := 37) hq0 kf_X3_15 dX3_retain_37 ?_
        refine A_iload_n C (pc := 40) 2 rfl dX3_retain_40 ?_
        refine A_aload_n C (pc := 41) 0 rfl dX3_retain_41 ?_
        refine A_g3_2 C (pc := 42) hq0 kf_X3_15 dX3_retain_42 ?_
        refine A_iload_n C (pc := 45) 3 rfl dX3_retain_45 ?_
        obtain ⟨c46, hf⟩ := chk_i hf
        refine A_iald C (pc := 46) (iO2 hq0) c46 dX3_retain_46 ?_
        obtain ⟨c47, hf⟩ := chk_i hf
        obtain ⟨M47, e47, hf⟩ := bd_i hf
        refine A_iast C (pc := 47) (iO2 hq0) c47 dX3_retain_47 ?_
        refine A_nmM e47 ?_
        refine A_iinc C (pc := 48) (k0 := 2) [(0, .ref (B + q0)), (1, .int x1), (2, .int (x2 + 1)), (3, .int x3)] rfl ic_1 (by decide) [1, 2, 0, 3] rfl dX3_retain_48 ?_
        refine A_iinc C (pc := 51) (k0 := 3) [(0, .ref (B + q0)), (1, .int x1), (2, .int (x2 + 1)), (3, .int (x3 + 1))] rfl ic_1 (by decide) [1, 2, 3, 0] rfl dX3_retain_51 ?_
        refine A_goto C (pc := 54) 4 (by decide) dX3_retain_54 ?_
        exact hk4 _ _ _ hf
set_option maxRecDepth 100000 in
theorem m_X3_retain (l : Launch) (B : Nat) (D : va_G) (Y : Nat → ClassId) (o : Ou) {M : Mem} {q0 : Nat} {x1 : Int32} {r : Mem} (hq0 : kd q0 = 2) (hf : f_X3_retain M q0 x1 = some r) : MW l yX3_retain cX3_retain 4 none rm_X3_retain B D Y o [.ref (B + q0), .int x1] M r none := by
  refine ofAt (L0 := [(0, .ref (B + q0)), (1, .int x1)]) (by decide +kernel) (Nat.le_of_ble_eq_true rfl) rfl (fun p e s m args below meth c C hr hk => ?_)
  dsimp only [f_X3_retain] at hf
  refine A_iconst C (pc := 0) ic_0 dX3_retain_0 ?_
  refine A_istore_n C (pc := 1) [(0, .ref (B + q0)), (1, .int x1), (2, .int 0)] rfl (by decide) [1, 2, 0] rfl dX3_retain_1 ?_
  refine A_iconst C (pc := 2) ic_0 dX3_retain_2 ?_
  refine A_istore_n C (pc := 3) [(0, .ref (B + q0)), (1, .int x1), (2, .int 0), (3, .int 0)] rfl (by decide) [1, 2, 3, 0] rfl dX3_retain_3 ?_
  exact w_X3_retain_L4 C hr hk hq0 FU _ _ _  hf
set_option maxRecDepth 100000 in
theorem w_X7_levelOf_L5 {M : Mem} {x1 : Int32} {x2 : Int32} {r : Int32} (C : Cx p s m args c cX7_levelOf 6 RX7 B D Y) (hr : meth.sig.returnType = (some .int)) (hk : meth.locks = false) {nn : Nat} {rec : (Mem × Int32 × Int32) → Option Int32} (hrec : ∀ (M : Mem) (x1 : Int32) (x2 : Int32) (r : Int32) , rec (M, x1, x2) = some r → MW l yX7_levelOf cX7_levelOf 6 (some .int) (rm_X7_levelOf nn) B D Y o [.ref (B + 47), .int x1, .int x2] M M (some (.int r)))  : ∀ (n : Nat) (x3 : Int32) (x4 : Int32), f_X7_levelOf_L5 M x1 x2 rec n (x3, x4) = some r → At p l e (rm_X7_levelOf (nn + 1)) s m args below meth c 6 0 0 (QQ below args s B D Y M o (some (.int r))) B D Y o 5 M [(0, .ref (B + 47)), (1, .int x1), (2, .int x2), (3, .int x3), (4, .int x4)] [] := by
  intro n
  induction n with
  | zero => intro x3 x4 hf; exact nomatch (show (none : Option Int32) = some r from hf)
  | succ n hk5 =>
    intro x3 x4 hf
    replace hf : g_X7_levelOf_L5 M x1 x2 rec (f_X7_levelOf_L5 M x1 x2 rec n) (x3, x4) = some r := hf
    dsimp only [g_X7_levelOf_L5] at hf
    refine A_iload C (pc := 5) 4 rfl dX7_levelOf_5 ?_
    refine A_aload_n C (pc := 7) 0 rfl dX7_levelOf_7 ?_
    refine A_g7_0 C (pc := 8) kf_X7_9 dX7_levelOf_8 ?_
    refine A_iload_n C (pc := 11) 1 rfl dX7_levelOf_11 ?_
    obtain ⟨c12, hf⟩ := chk_i hf
    refine A_iald C (pc := 12) (show IA 48 5 from ⟨rfl, rfl⟩) c12 dX7_levelOf_12 ?_
    refine A_icmp_ge C (pc := 13) 62 (by decide) dX7_levelOf_13 hf (fun _ hf => ?_) (fun _ hf => ?_)
    · refine A_iload_n C (pc := 62) 3 rfl dX7_levelOf_62 ?_
      refine A_iconst C (pc := 63) ic_1 dX7_levelOf_63 ?_
      refine A_iadd C (pc := 64) dX7_levelOf_64 ?_
      exact R_iP C (pc := 65) hr hk rfl dX7_levelOf_65 hf
    · refine A_aload_n C (pc := 16) 0 rfl dX7_levelOf_16 ?_
      refine A_g7_2 C (pc := 17) kf_X7_20 dX7_levelOf_17 ?_
      refine A_iload_n C (pc := 20) 1 rfl dX7_levelOf_20 ?_
      obtain ⟨c21, hf⟩ := chk_i hf
      refine A_aB C (pc := 21) c21 dX7_levelOf_21 ?_
      refine A_iload C (pc := 22) 4 rfl dX7_levelOf_22 ?_
      obtain ⟨c24, hf⟩ := chk_i hf
      refine A_aR C (pc := 24) (kBel (inb_lt c21)) c24 dX7_levelOf_24 ?_
      refine A_iload_n C (pc := 25) 2 rfl dX7_levelOf_25 ?_
      obtain ⟨c26, hf⟩ := chk_i hf
      refine A_zald C (pc := 26) (kRow (kBel (inb_lt c21)) (inb_lt c24)) c26 dX7_levelOf_26 ?_
      refine A_if_eq C (pc := 27) 40 (by decide) dX7_levelOf_27 hf (fun _ hf => ?_) (fun _ hf => ?_)
      · refine A_iconst C (pc := 40) ic_0 dX7_levelOf_40 ?_
        refine A_istore C (pc := 41) [(0, .ref (B + 47)), (1, .int x1), (2, .int x2), (3, .int x3), (4, .int x4), (5, .int 0)] (by decide) [1, 2, 3, 4, 5, 0] rfl dX7_levelOf_41 ?_
        refine A_iload C (pc := 43) 5 rfl dX7_levelOf_43 ?_
        refine A_iload_n C (pc := 45) 3 rfl dX7_levelOf_45 ?_
        refine A_icmp_le C (pc := 46) 54 (by decide) dX7_levelOf_46 hf (fun _ hf => ?_) (fun _ hf => ?_)
        · refine A_iload_n C (pc := 54) 3 rfl dX7_levelOf_54 ?_
          refine A_istore_n C (pc := 55) [(0, .ref (B + 47)), (1, .int x1), (2, .int x2), (3, .int x3), (4, .int x4)] rfl (by decide) [1, 2, 3, 0, 4] rfl dX7_levelOf_55 ?_
          refine A_iinc C (pc := 56) (k0 := 4) [(0, .ref (B + 47)), (1, .int x1), (2, .int x2), (3, .int x3), (4, .int (x4 + 1))] rfl ic_1 (by decide) [1, 2, 3, 4, 0] rfl dX7_levelOf_56 ?_
          refine A_goto C (pc := 59) 5 (by decide) dX7_levelOf_59 ?_
          exact hk5 _ _ hf
        · refine A_iload C (pc := 49) 5 rfl dX7_levelOf_49 ?_
          refine A_goto C (pc := 51) 55 (by decide) dX7_levelOf_51 ?_
          refine A_istore_n C (pc := 55) [(0, .ref (B + 47)), (1, .int x1), (2, .int x2), (3, .int 0), (4, .int x4)] rfl (by decide) [1, 2, 3, 0, 4] rfl dX7_levelOf_55 ?_
          refine A_iinc C (pc := 56) (k0 := 4) [(0, .ref (B + 47)), (1, .int x1), (2, .int x2), (3, .int 0), (4, .int (x4 + 1))] rfl ic_1 (by decide) [1, 2, 3, 4, 0] rfl dX7_levelOf_56 ?_
          refine A_goto C (pc := 59) 5 (by decide) dX7_levelOf_59 ?_
          exact hk5 _ _ hf
      · refine A_aload_n C (pc := 30) 0 rfl dX7_levelOf_30 ?_
        refine A_iload_n C (pc := 31) 1 rfl dX7_levelOf_31 ?_
        refine A_iload C (pc := 32) 4 rfl dX7_levelOf_32 ?_
        obtain ⟨z34, h34, hf⟩ := bd_i hf
        refine A_callV1 C (pc := 34) (A := [.int x1, .int x4]) (rest := []) k_X7_105 ky_X7_levelOf kv_X7_levelOf (hrec _ _ _ _  h34) (by decide) rfl rfl rfl rfl (Nat.le_of_ble_eq_true rfl) ⟨rfl, rfl, (by simp only [rm_X7_levelOf]; omega), (by simp only [rm_X7_levelOf]; omega)⟩ ⟨Nat.zero_le _, Nat.zero_le _⟩ dX7_levelOf_34 ?_
        refine A_goto C (pc := 37) 41 (by decide) dX7_levelOf_37 ?_
        refine A_istore C (pc := 41) [(0, .ref (B + 47)), (1, .int x1), (2, .int x2), (3, .int x3), (4, .int x4), (5, .int z34)] (by decide) [1, 2, 3, 4, 5, 0] rfl dX7_levelOf_41 ?_
        refine A_iload C (pc := 43) 5 rfl dX7_levelOf_43 ?_
        refine A_iload_n C (pc := 45) 3 rfl dX7_levelOf_45 ?_
        refine A_icmp_le C (pc := 46) 54 (by decide) dX7_levelOf_46 hf (fun _ hf => ?_) (fun _ hf => ?_)
        · refine A_iload_n C (pc := 54) 3 rfl dX7_levelOf_54 ?_
          refine A_istore_n C (pc := 55) [(0, .ref (B + 47)), (1, .int x1), (2, .int x2), (3, .int x3), (4, .int x4)] rfl (by decide) [1, 2, 3, 0, 4] rfl dX7_levelOf_55 ?_
          refine A_iinc C (pc := 56) (k0 := 4) [(0, .ref (B + 47)), (1, .int x1), (2, .int x2), (3, .int x3), (4, .int (x4 + 1))] rfl ic_1 (by decide) [1, 2, 3, 4, 0] rfl dX7_levelOf_56 ?_
          refine A_goto C (pc := 59) 5 (by decide) dX7_levelOf_59 ?_
          exact hk5 _ _ hf
        · refine A_iload C (pc := 49) 5 rfl dX7_levelOf_49 ?_
          refine A_goto C (pc := 51) 55 (by decide) dX7_levelOf_51 ?_
          refine A_istore_n C (pc := 55) [(0, .ref (B + 47)), (1, .int x1), (2, .int x2), (3, .int z34), (4, .int x4)] rfl (by decide) [1, 2, 3, 0, 4] rfl dX7_levelOf_55 ?_
          refine A_iinc C (pc := 56) (k0 := 4) [(0, .ref (B + 47)), (1, .int x1), (2, .int x2), (3, .int z34), (4, .int (x4 + 1))] rfl ic_1 (by decide) [1, 2, 3, 4, 0] rfl dX7_levelOf_56 ?_
          refine A_goto C (pc := 59) 5 (by decide) dX7_levelOf_59 ?_
          exact hk5 _ _ hf
set_option maxRecDepth 100000 in
theorem m_X7_levelOf (l : Launch) (B : Nat) (D : va_G) (Y : Nat → ClassId) (o : Ou)  : ∀ (n : Nat) (M : Mem) (x1 : Int32) (x2 : Int32) (r : Int32) , f_X7_levelOf n (M, x1, x2) = some r → MW l yX7_levelOf cX7_levelOf 6 (some .int) (rm_X7_levelOf n) B D Y o [.ref (B + 47), .int x1, .int x2] M M (some (.int r)) := by
  intro nn
  induction nn with
  | zero => intro M x1 x2 r  hf; exact nomatch (show (none : Option Int32) = some r from hf)
  | succ nn hrec =>
    intro M x1 x2 r  hf
    replace hf : b_X7_levelOf (f_X7_levelOf nn) (M, x1, x2) = some r := hf
    dsimp only [b_X7_levelOf] at hf
    refine ofAt (L0 := [(0, .ref (B + 47)), (1, .int x1), (2, .int x2)]) (by decide +kernel) (Nat.le_of_ble_eq_true rfl) rfl (fun p e s m args below meth c C hr hk => ?_)
    refine A_iconst C (pc := 0) ic_0 dX7_levelOf_0 ?_
    refine A_istore_n C (pc := 1) [(0, .ref (B + 47)), (1, .int x1), (2, .int x2), (3, .int 0)] rfl (by decide) [1, 2, 3, 0] rfl dX7_levelOf_1 ?_
    refine A_iconst C (pc := 2) ic_0 dX7_levelOf_2 ?_
    refine A_istore C (pc := 3) [(0, .ref (B + 47)), (1, .int x1), (2, .int x2), (3, .int 0), (4, .int 0)] (by decide) [1, 2, 3, 4, 0] rfl dX7_levelOf_3 ?_
    exact w_X7_levelOf_L5 C hr hk hrec FU _ _  hf
set_option maxRecDepth 100000 in
theorem m_X3_isBelow (l : Launch) (B : Nat) (D : va_G) (Y : Nat → ClassId) (o : Ou) {M : Mem} {q0 : Nat} {x1 : Int32} {x2 : Int32} {r : Int32} (hq0 : kd q0 = 2) (hf : f_X3_isBelow M q0 x1 x2 = some r) : MW l yX3_isBelow cX3_isBelow 3 (some .boolean) rm_X3_isBelow B D Y o [.ref (B + q0), .int x1, .int x2] M M (some (.int r)) := by
  refine ofAt (L0 := [(0, .ref (B + q0)), (1, .int x1), (2, .int x2)]) (by decide +kernel) (Nat.le_of_ble_eq_true rfl) rfl (fun p e s m args below meth c C hr hk => ?_)
  dsimp only [f_X3_isBelow] at hf
  refine A_aload_n C (pc := 0) 0 rfl dX3_isBelow_0 ?_
  refine A_g3_1 C (pc := 1) hq0 kf_X3_9 dX3_isBelow_1 ?_
  refine A_iload_n C (pc := 4) 2 rfl dX3_isBelow_4 ?_
  obtain ⟨c5, hf⟩ := chk_i hf
  refine A_iald C (pc := 5) (iO1 hq0) c5 dX3_isBelow_5 ?_
  refine A_iload_n C (pc := 6) 1 rfl dX3_isBelow_6 ?_
  obtain ⟨z7, h7, hf⟩ := bd_i hf
  refine A_callS1 C (pc := 7) (A := [.int (M (q0 + 1) x2.toNatClampNeg), .int x1]) (rest := []) k_X3_26 ky_X6_has ks_X6_has (m_X6_has l B D Y o  h7) rfl rfl (Nat.le_of_ble_eq_true rfl) ⟨rfl, rfl, Nat.le_of_ble_eq_true rfl, Nat.le_of_ble_eq_true rfl⟩ ⟨Nat.zero_le _, Nat.zero_le _⟩ dX3_isBelow_7 ?_
  obtain ⟨c10, hf⟩ := chk_i hf
  exact R_iP C (pc := 10) hr hk (isb_nz c10) dX3_isBelow_10 hf
set_option maxRecDepth 100000 in
theorem w_X3_pairCount_L4 {M : Mem} {q0 : Nat} {r : Int32} (C : Cx p s m args c cX3_pairCount 3 RX3 B D Y) (hr : meth.sig.returnType = (some .int)) (hk : meth.locks = false) (hq0 : kd q0 = 2) : ∀ (n : Nat) (x1 : Int32) (x2 : Int32), f_X3_pairCount_L4 M q0 n (x1, x2) = some r → At p l e rm_X3_pairCount s m args below meth c 3 0 0 (QQ below args s B D Y M o (some (.int r))) B D Y o 4 M [(0, .ref (B + q0)), (1, .int x1), (2, .int x2)] [] := by
  intro n
  induction n with
  | zero => intro x1 x2 hf; exact nomatch (show (none : Option Int32) = some r from hf)
  | succ n hk4 =>
    intro x1 x2 hf
    replace hf : g_X3_pairCount_L4 M q0 (f_X3_pairCount_L4 M q0 n) (x1, x2) = some r := hf
    dsimp only [g_X3_pairCount_L4] at hf
    refine A_iload_n C (pc := 4) 2 rfl dX3_pairCount_4 ?_
    refine A_aload_n C (pc := 5) 0 rfl dX3_pairCount_5 ?_
    refine A_g3_0 C (pc := 6) hq0 kf_X3_22 dX3_pairCount_6 ?_
    refine A_icmp_ge C (pc := 9) 30 (by decide) dX3_pairCount_9 hf (fun _ hf => ?_) (fun _ hf => ?_)
    · refine A_iload_n C (pc := 30) 1 rfl dX3_pairCount_30 ?_
      exact R_iP C (pc := 31) hr hk rfl dX3_pairCount_31 hf
    · refine A_iload_n C (pc := 12) 1 rfl dX3_pairCount_12 ?_
      refine A_aload_n C (pc := 13) 0 rfl dX3_pairCount_13 ?_
      refine A_g3_1 C (pc := 14) hq0 kf_X3_9 dX3_pairCount_14 ?_
      refine A_iload_n C (pc := 17) 2 rfl dX3_pairCount_17 ?_
      obtain ⟨c18, hf⟩ := chk_i hf
      refine A_iald C (pc := 18) (iO1 hq0) c18 dX3_pairCount_18 ?_
      obtain ⟨z19, h19, hf⟩ := bd_i hf
      refine A_callS1 C (pc := 19) (A := [.int (M (q0 + 1) x2.toNatClampNeg)]) (rest := [.int x1]) k_X3_60 ky_J6_bitCount_0f7a4 ks_J6_bitCount_0f7a4 (m_J6_bitCount_0f7a4 l B D Y o  h19) rfl rfl (Nat.le_of_ble_eq_true rfl) ⟨rfl, rfl, Nat.le_of_ble_eq_true rfl, Nat.le_of_ble_eq_true rfl⟩ ⟨Nat.zero_le _, Nat.zero_le _⟩ dX3_pairCount_19 ?_
      refine A_iadd C (pc := 22) dX3_pairCount_22 ?_
      obtain ⟨v23, e23, hf⟩ := bd_i hf
      refine A_nmI e23 ?_
      refine A_istore_n C (pc := 23) [(0, .ref (B + q0)), (1, .int v23), (2, .int x2)] rfl (by decide) [1, 0, 2] rfl dX3_pairCount_23 ?_
      refine A_iinc C (pc := 24) (k0 := 2) [(0, .ref (B + q0)), (1, .int v23), (2, .int (x2 + 1))] rfl ic_1 (by decide) [1, 2, 0] rfl dX3_pairCount_24 ?_
      refine A_goto C (pc := 27) 4 (by decide) dX3_pairCount_27 ?_
      exact hk4 _ _ hf
set_option maxRecDepth 100000 in
theorem m_X3_pairCount (l : Launch) (B : Nat) (D : va_G) (Y : Nat → ClassId) (o : Ou) {M : Mem} {q0 : Nat} {r : Int32} (hq0 : kd q0 = 2) (hf : f_X3_pairCount M q0 = some r) : MW l yX3_pairCount cX3_pairCount 3 (some .int) rm_X3_pairCount B D Y o [.ref (B + q0)] M M (some (.int r)) := by
  refine ofAt (L0 := [(0, .ref (B + q0))]) (by decide +kernel) (Nat.le_of_ble_eq_true rfl) rfl (fun p e s m args below meth c C hr hk => ?_)
  dsimp only [f_X3_pairCount] at hf
  refine A_iconst C (pc := 0) ic_0 dX3_pairCount_0 ?_
  refine A_istore_n C (pc := 1) [(0, .ref (B + q0)), (1, .int 0)] rfl (by decide) [1, 0] rfl dX3_pairCount_1 ?_
  refine A_iconst C (pc := 2) ic_0 dX3_pairCount_2 ?_
  refine A_istore_n C (pc := 3) [(0, .ref (B + q0)), (1, .int 0), (2, .int 0)] rfl (by decide) [1, 2, 0] rfl dX3_pairCount_3 ?_
  exact w_X3_pairCount_L4 C hr hk hq0 FU _ _  hf
set_option maxRecDepth 100000 in
theorem w_X3_link_L37 {q0 : Nat} {x2 : Int32} {x3 : Int32} {x4 : Int32} {r : Int32 × Mem} (C : Cx p s m args c cX3_link 6 RX3 B D Y) (hr : meth.sig.returnType = (some .int)) (hk : meth.locks = false) (hq0 : kd q0 = 2) : ∀ (n : Nat) (x5 : Int32) (M : Mem), f_X3_link_L37 q0 x2 x3 x4 n (x5, M) = some r → At p l e rm_X3_link s m args below meth c 6 0 0 (QQ below args s B D Y r.2 o (some (.int r.1))) B D Y o 37 M [(0, .ref (B + q0)), (2, .int x2), (3, .int x3), (4, .int x4), (5, .int x5)] [] := by
  intro n
  induction n with
  | zero => intro x5 M hf; exact nomatch (show (none : Option (Int32 × Mem)) = some r from hf)
  | succ n hk37 =>
    intro x5 M hf
    replace hf : g_X3_link_L37 q0 x2 x3 x4 (f_X3_link_L37 q0 x2 x3 x4 n) (x5, M) = some r := hf
    dsimp only [g_X3_link_L37] at hf
    refine A_iload C (pc := 37) 4 rfl dX3_link_37 ?_
    refine A_aload_n C (pc := 39) 0 rfl dX3_link_39 ?_
    refine A_g3_0 C (pc := 40) hq0 kf_X3_22 dX3_link_40 ?_
    refine A_icmp_ge C (pc := 43) 80 (by decide) dX3_link_43 hf (fun _ hf => ?_) (fun _ hf => ?_)
    · refine A_aload_n C (pc := 80) 0 rfl dX3_link_80 ?_
      obtain ⟨z81, h81, hf⟩ := bd_i hf
      refine A_callV1 C (pc := 81) (A := []) (rest := []) k_X3_37 ky_X3_pairCount kv_X3_pairCount (m_X3_pairCount l B D Y o hq0 h81) (kO hq0).1 (ent2 hq0) rfl rfl rfl (Nat.le_of_ble_eq_true rfl) ⟨rfl, rfl, Nat.le_of_ble_eq_true rfl, Nat.le_of_ble_eq_true rfl⟩ ⟨Nat.zero_le _, Nat.zero_le _⟩ dX3_link_81 ?_
      refine A_iload_n C (pc := 84) 2 rfl dX3_link_84 ?_
      refine A_isub C (pc := 85) dX3_link_85 ?_
      exact R_iM C (pc := 86) hr hk rfl dX3_link_86 hf
    · refine A_iload C (pc := 46) 4 rfl dX3_link_46 ?_
      refine A_iload_n C (pc := 48) 1 rfl dX3_link_48 ?_
      refine A_icmp_eq C (pc := 49) 62 (by decide) dX3_link_49 hf (fun _ hf => ?_) (fun _ hf => ?_)
      · refine A_aload_n C (pc := 62) 0 rfl dX3_link_62 ?_
        refine A_g3_1 C (pc := 63) hq0 kf_X3_9 dX3_link_63 ?_
        refine A_iload C (pc := 66) 4 rfl dX3_link_66 ?_
        refine A_dup2 C (pc := 68) rfl rfl dX3_link_68 ?_
        obtain ⟨c69, hf⟩ := chk_i hf
        refine A_iald C (pc := 69) (iO1 hq0) c69 dX3_link_69 ?_
        refine A_iload C (pc := 70) 3 rfl dX3_link_70 ?_
        refine A_ior C (pc := 72) dX3_link_72 ?_
        obtain ⟨c73, hf⟩ := chk_i hf
        obtain ⟨M73, e73, hf⟩ := bd_i hf
        refine A_iast C (pc := 73) (iO1 hq0) c73 dX3_link_73 ?_
        refine A_nmM e73 ?_
        refine A_iinc C (pc := 74) (k0 := 4) [(0, .ref (B + q0)), (2, .int x2), (3, .int x3), (4, .int x4), (5, .int (x5 + 1))] rfl ic_1 (by decide) [1, 2, 3, 4, 0] rfl dX3_link_74 ?_
        refine A_goto C (pc := 77) 37 (by decide) dX3_link_77 ?_
        exact hk37 _ _ hf
      · refine A_aload_n C (pc := 52) 0 rfl dX3_link_52 ?_
        refine A_iload_n C (pc := 53) 1 rfl dX3_link_53 ?_
        refine A_iload C (pc := 54) 4 rfl dX3_link_54 ?_
        obtain ⟨z56, h56, hf⟩ := bd_i hf
        refine A_callV1 C (pc := 56) (A := [.int x2, .int x5]) (rest := []) k_X3_34 ky_X3_isBelow kv_X3_isBelow (m_X3_isBelow l B D Y o hq0 h56) (kO hq0).1 (ent2 hq0) rfl rfl rfl (Nat.le_of_ble_eq_true rfl) ⟨rfl, rfl, Nat.le_of_ble_eq_true rfl, Nat.le_of_ble_eq_true rfl⟩ ⟨Nat.zero_le _, Nat.zero_le _⟩ dX3_link_56 ?_
        refine A_if_eq C (pc := 59) 74 (by decide) dX3_link_59 hf (fun _ hf => ?_) (fun _ hf => ?_)
        · refine A_iinc C (pc := 74) (k0 := 4) [(0, .ref (B + q0)), (2, .int x2), (3, .int x3), (4, .int x4), (5, .int (x5 + 1))] rfl ic_1 (by decide) [1, 2, 3, 4, 0] rfl dX3_link_74 ?_
          refine A_goto C (pc := 77) 37 (by decide) dX3_link_77 ?_
          exact hk37 _ _ hf
        · refine A_aload_n C (pc := 62) 0 rfl dX3_link_62 ?_
          refine A_g3_1 C (pc := 63) hq0 kf_X3_9 dX3_link_63 ?_
          refine A_iload C (pc := 66) 4 rfl dX3_link_66 ?_
          refine A_dup2 C (pc := 68) rfl rfl dX3_link_68 ?_
          obtain ⟨c69, hf⟩ := chk_i hf
          refine A_iald C (pc := 69) (iO1 hq0) c69 dX3_link_69 ?_
          refine A_iload C (pc := 70) 3 rfl dX3_link_70 ?_
          refine A_ior C (pc := 72) dX3_link_72 ?_
          obtain ⟨c73, hf⟩ := chk_i hf
          obtain ⟨M73, e73, hf⟩ := bd_i hf
          refine A_iast C (pc := 73) (iO1 hq0) c73 dX3_link_73 ?_
          refine A_nmM e73 ?_
          refine A_iinc C (pc := 74) (k0 := 4) [(0, .ref (B + q0)), (2, .int x2), (3, .int x3), (4, .int x4), (5, .int (x5 + 1))] rfl ic_1 (by decide) [1, 2, 3, 4, 0] rfl dX3_link_74 ?_
          refine A_goto C (pc := 77) 37 (by decide) dX3_link_77 ?_
          exact hk37 _ _ hf
set_option maxRecDepth 100000 in
theorem m_X3_link (l : Launch) (B : Nat) (D : va_G) (Y : Nat → ClassId) (o : Ou) {M : Mem} {q0 : Nat} {x1 : Int32} {x2 : Int32} {r : Int32 × Mem} (hq0 : kd q0 = 2) (hf : f_X3_link M q0 x1 x2 = some r) : MW l yX3_link cX3_link 6 (some .int) rm_X3_link B D Y o [.ref (B + q0), .int x1, .int x2] M r.2 (some (.int r.1)) := by
  refine ofAt (L0 := [(0, .ref (B + q0)), (1, .int x1), (2, .int x2)]) (by decide +kernel) (Nat.le_of_ble_eq_true rfl) rfl (fun p e s m args below meth c C hr hk => ?_)
  dsimp only [f_X3_link] at hf
  refine A_iload_n C (pc := 0) 1 rfl dX3_link_0 ?_
  refine A_iload_n C (pc := 1) 2 rfl dX3_link_1 ?_
  refine A_icmp_eq C (pc := 2) 14 (by decide) dX3_link_2 hf (fun _ hf => ?_) (fun _ hf => ?_)
  · refine A_bipush C (pc := 14) bc_m9 dX3_link_14 ?_
    exact R_iM C (pc := 16) hr hk rfl dX3_link_16 hf
  · refine A_aload_n C (pc := 5) 0 rfl dX3_link_5 ?_
    refine A_iload_n C (pc := 6) 2 rfl dX3_link_6 ?_
    refine A_iload_n C (pc := 7) 1 rfl dX3_link_7 ?_
    obtain ⟨z8, h8, hf⟩ := bd_i hf
    refine A_callV1 C (pc := 8) (A := [.int x2, .int x1]) (rest := []) k_X3_34 ky_X3_isBelow kv_X3_isBelow (m_X3_isBelow l B D Y o hq0 h8) (kO hq0).1 (ent2 hq0) rfl rfl rfl (Nat.le_of_ble_eq_true rfl) ⟨rfl, rfl, Nat.le_of_ble_eq_true rfl, Nat.le_of_ble_eq_true rfl⟩ ⟨Nat.zero_le _, Nat.zero_le _⟩ dX3_link_8 ?_
    refine A_if_eq C (pc := 11) 17 (by decide) dX3_link_11 hf (fun _ hf => ?_) (fun _ hf => ?_)
    · refine A_aload_n C (pc := 17) 0 rfl dX3_link_17 ?_
      obtain ⟨z18, h18, hf⟩ := bd_i hf
      refine A_callV1 C (pc := 18) (A := []) (rest := []) k_X3_37 ky_X3_pairCount kv_X3_pairCount (m_X3_pairCount l B D Y o hq0 h18) (kO hq0).1 (ent2 hq0) rfl rfl rfl (Nat.le_of_ble_eq_true rfl) ⟨rfl, rfl, Nat.le_of_ble_eq_true rfl, Nat.le_of_ble_eq_true rfl⟩ ⟨Nat.zero_le _, Nat.zero_le _⟩ dX3_link_18 ?_
      refine A_istore_n C (pc := 21) [(0, .ref (B + q0)), (1, .int x1), (2, .int x2), (3, .int z18)] rfl (by decide) [1, 2, 3, 0] rfl dX3_link_21 ?_
      refine A_aload_n C (pc := 22) 0 rfl dX3_link_22 ?_
      refine A_g3_1 C (pc := 23) hq0 kf_X3_9 dX3_link_23 ?_
      refine A_iload_n C (pc := 26) 1 rfl dX3_link_26 ?_
      obtain ⟨c27, hf⟩ := chk_i hf
      refine A_iald C (pc := 27) (iO1 hq0) c27 dX3_link_27 ?_
      refine A_iconst C (pc := 28) ic_1 dX3_link_28 ?_
      refine A_iload_n C (pc := 29) 1 rfl dX3_link_29 ?_
      refine A_ishl C (pc := 30) dX3_link_30 ?_
      refine A_ior C (pc := 31) dX3_link_31 ?_
      obtain ⟨v32, e32, hf⟩ := bd_i hf
      refine A_nmI e32 ?_
      refine A_istore C (pc := 32) [(0, .ref (B + q0)), (2, .int x2), (3, .int z18), (4, .int v32)] (by decide) [1, 3, 4, 0] rfl dX3_link_32 ?_
      refine A_iconst C (pc := 34) ic_0 dX3_link_34 ?_
      refine A_istore C (pc := 35) [(0, .ref (B + q0)), (2, .int x2), (3, .int z18), (4, .int v32), (5, .int 0)] (by decide) [1, 2, 3, 4, 0] rfl dX3_link_35 ?_
      exact w_X3_link_L37 C hr hk hq0 FU _ _  hf
    · refine A_bipush C (pc := 14) bc_m9 dX3_link_14 ?_
      exact R_iM C (pc := 16) hr hk rfl dX3_link_16 hf
end W1
end
