theorem ic_m1 : Int32.ofInt (-1) = (-1) := by decide +kernel
theorem ic_0 : Int32.ofInt 0 = 0 := by decide +kernel
theorem ic_1 : Int32.ofInt 1 = 1 := by decide +kernel
theorem ic_2 : Int32.ofInt 2 = 2 := by decide +kernel
theorem ic_3 : Int32.ofInt 3 = 3 := by decide +kernel
theorem ic_4 : Int32.ofInt 4 = 4 := by decide +kernel
theorem bc_m9 : (Int8.ofInt (-9)).toInt32 = (-9) := by decide +kernel
theorem bc_8 : (Int8.ofInt 8).toInt32 = 8 := by decide +kernel
theorem bc_9 : (Int8.ofInt 9).toInt32 = 9 := by decide +kernel
theorem bc_10 : (Int8.ofInt 10).toInt32 = 10 := by decide +kernel
theorem bc_16 : (Int8.ofInt 16).toInt32 = 16 := by decide +kernel
theorem bc_32 : (Int8.ofInt 32).toInt32 = 32 := by decide +kernel
theorem bc_60 : (Int8.ofInt 60).toInt32 = 60 := by decide +kernel
theorem bc_61 : (Int8.ofInt 61).toInt32 = 61 := by decide +kernel
theorem bc_62 : (Int8.ofInt 62).toInt32 = 62 := by decide +kernel
theorem bc_63 : (Int8.ofInt 63).toInt32 = 63 := by decide +kernel
theorem bc_99 : (Int8.ofInt 99).toInt32 = 99 := by decide +kernel
theorem bc_102 : (Int8.ofInt 102).toInt32 = 102 := by decide +kernel
theorem bc_104 : (Int8.ofInt 104).toInt32 = 104 := by decide +kernel
theorem bc_108 : (Int8.ofInt 108).toInt32 = 108 := by decide +kernel
theorem bc_124 : (Int8.ofInt 124).toInt32 = 124 := by decide +kernel
theorem sc_m1000 : (Int16.ofInt (-1000)).toInt32 = (-1000) := by decide +kernel
theorem sc_1000 : (Int16.ofInt 1000).toInt32 = 1000 := by decide +kernel
theorem kmc_max : Cond.code yJ9_max_7cf53 cJ9_max_7cf53 2 (some .int) ∈ Tz := Tz_mem (tz1 (List.mem_of_getElem? (i := 205) rfl)) rfl
theorem kms_max : Cond.static yJ9_max_7cf53 ∈ Tz := Tz_mem (tz1 (List.mem_of_getElem? (i := 204) rfl)) rfl
theorem kmc_min : Cond.code yJ9_min_7cf53 cJ9_min_7cf53 2 (some .int) ∈ Tz := Tz_mem (tz3 (List.mem_of_getElem? (i := 49) rfl)) rfl
theorem kms_min : Cond.static yJ9_min_7cf53 ∈ Tz := Tz_mem (tz3 (List.mem_of_getElem? (i := 48) rfl)) rfl
theorem km_ini : Cond.initialized "java/lang/Math" ∈ Tz := Tz_mem (tz1 (List.mem_of_getElem? (i := 15) rfl)) rfl
theorem k_X3_64 : LK RX3 64 yJ6_bitCount_0f7a4 := Or.inl (Tz_mem (tz1 (List.mem_of_getElem? (i := 219) rfl)) rfl)
theorem k_X3_30 : LK RX3 30 yX6_has := Or.inr ⟨"Belowhouse", Tz_mem (tz1 (List.mem_of_getElem? (i := 170) rfl)) rfl⟩
theorem k_X0_18 : LK RX0 18 yX3_setLimit := Or.inl (Tz_mem (tz1 (List.mem_of_getElem? (i := 192) rfl)) rfl)
theorem k_X0_24 : LK RX0 24 yX6_isWithin := Or.inr ⟨"Belowhouse", Tz_mem (tz1 (List.mem_of_getElem? (i := 214) rfl)) rfl⟩
theorem k_X0_28 : LK RX0 28 yX3_isInLine := Or.inl (Tz_mem (tz1 (List.mem_of_getElem? (i := 215) rfl)) rfl)
theorem k_X0_32 : LK RX0 32 yJ6_bitCount_0f7a4 := Or.inl (Tz_mem (tz1 (List.mem_of_getElem? (i := 197) rfl)) rfl)
theorem km_X0_38 : Cond.methodLink RX0 38 yJ9_max_7cf53 ∈ Tz := Tz_mem (tz1 (List.mem_of_getElem? (i := 203) rfl)) rfl
theorem k_X0_44 : LK RX0 44 yX3_isUnordered := Or.inl (Tz_mem (tz1 (List.mem_of_getElem? (i := 193) rfl)) rfl)
theorem k_X3_18 : LK RX3 18 yX3_setLimit := Or.inl (Tz_mem (tz1 (List.mem_of_getElem? (i := 210) rfl)) rfl)
theorem k_X0_47 : LK RX0 47 yX3_all := Or.inl (Tz_mem (tz3 (List.mem_of_getElem? (i := 226) rfl)) rfl)
theorem k_X0_54 : LK RX0 54 yX3_leastOf := Or.inl (Tz_mem (tz3 (List.mem_of_getElem? (i := 227) rfl)) rfl)
theorem k_X0_61 : LK RX0 61 yX3_hasThing := Or.inl (Tz_mem (tz3 (List.mem_of_getElem? (i := 214) rfl)) rfl)
theorem k_X0_64 : LK RX0 64 yX3_isBelow := Or.inl (Tz_mem (tz3 (List.mem_of_getElem? (i := 215) rfl)) rfl)
theorem k_X0_57 : LK RX0 57 yX0_findsFollower := Or.inl (Tz_mem (tz3 (List.mem_of_getElem? (i := 211) rfl)) rfl)
theorem k_X1_9 : LK RX1 9 yJ6_bitCount_0f7a4 := Or.inl (Tz_mem (tz4 (List.mem_of_getElem? (i := 15) rfl)) rfl)
theorem k_X3_75 : LK RX3 75 yX6_isWithin := Or.inr ⟨"Belowhouse", Tz_mem (tz1 (List.mem_of_getElem? (i := 173) rfl)) rfl⟩
theorem k_X1_15 : LK RX1 15 yX3_setLimit := Or.inl (Tz_mem (tz1 (List.mem_of_getElem? (i := 162) rfl)) rfl)
theorem k_X1_21 : LK RX1 21 yX3_isClosedBelow := Or.inl (Tz_mem (tz1 (List.mem_of_getElem? (i := 166) rfl)) rfl)
theorem k_X1_25 : LK RX1 25 yX1_isAhead := Or.inl (Tz_mem (tz4 (List.mem_of_getElem? (i := 38) rfl)) rfl)
theorem k_X2_45 : LK RX2 45 yX6_has := Or.inr ⟨"Belowhouse", Tz_mem (tz4 (List.mem_of_getElem? (i := 217) rfl)) rfl⟩
theorem k_X2_36 : LK RX2 36 yJ6_bitCount_0f7a4 := Or.inl (Tz_mem (tz4 (List.mem_of_getElem? (i := 212) rfl)) rfl)
theorem k_X2_41 : LK RX2 41 yX2_sumBelow := Or.inl (Tz_mem (tz4 (List.mem_of_getElem? (i := 213) rfl)) rfl)
theorem k_X2_15 : LK RX2 15 yX2_fillFrom := Or.inl (Tz_mem (tz4 (List.mem_of_getElem? (i := 208) rfl)) rfl)
theorem k_X3_38 : LK RX3 38 yX3_isBelow := Or.inl (Tz_mem (tz2 (List.mem_of_getElem? (i := 189) rfl)) rfl)
theorem k_X2_29 : LK RX2 29 yX3_sumUpTo := Or.inl (Tz_mem (tz4 (List.mem_of_getElem? (i := 230) rfl)) rfl)
theorem k_X2_25 : LK RX2 25 yX3_isBelow := Or.inl (Tz_mem (tz4 (List.mem_of_getElem? (i := 229) rfl)) rfl)
theorem k_X3_26 : LK RX3 26 yX3_hasThing := Or.inl (Tz_mem (tz3 (List.mem_of_getElem? (i := 7) rfl)) rfl)
theorem k_X3_34 : LK RX3 34 yX3_squeezed := Or.inl (Tz_mem (tz2 (List.mem_of_getElem? (i := 151) rfl)) rfl)
theorem k_X3_41 : LK RX3 41 yX3_pairCount := Or.inl (Tz_mem (tz2 (List.mem_of_getElem? (i := 193) rfl)) rfl)
theorem k_X3_44 : LK RX3 44 yX3_clearTo := Or.inl (Tz_mem (tz3 (List.mem_of_getElem? (i := 19) rfl)) rfl)
theorem k_X3_48 : LK RX3 48 yX3_aboveOf := Or.inl (Tz_mem (tz2 (List.mem_of_getElem? (i := 205) rfl)) rfl)
theorem km_X3_52 : Cond.methodLink RX3 52 yJ9_min_7cf53 ∈ Tz := Tz_mem (tz3 (List.mem_of_getElem? (i := 47) rfl)) rfl
theorem k_X3_57 : LK RX3 57 yX3_all := Or.inl (Tz_mem (tz3 (List.mem_of_getElem? (i := 50) rfl)) rfl)
theorem k_X3_60 : LK RX3 60 yX3_become := Or.inl (Tz_mem (tz3 (List.mem_of_getElem? (i := 69) rfl)) rfl)
theorem k_X3_72 : LK RX3 72 yX3_allBelow := Or.inl (Tz_mem (tz3 (List.mem_of_getElem? (i := 99) rfl)) rfl)
theorem k_X3_69 : LK RX3 69 yX3_greatestOf := Or.inl (Tz_mem (tz3 (List.mem_of_getElem? (i := 95) rfl)) rfl)
theorem k_X4_35 : LK RX4 35 yX3_canCome := Or.inl (Tz_mem (tz1 (List.mem_of_getElem? (i := 185) rfl)) rfl)
theorem k_X4_21 : LK RX4 21 yX3_setLimit := Or.inl (Tz_mem (tz1 (List.mem_of_getElem? (i := 180) rfl)) rfl)
theorem k_X4_27 : LK RX4 27 yX4_passOn := Or.inl (Tz_mem (tz1 (List.mem_of_getElem? (i := 181) rfl)) rfl)
theorem k_X4_39 : LK RX4 39 yX4_count := Or.inl (Tz_mem (tz2 (List.mem_of_getElem? (i := 228) rfl)) rfl)
theorem k_X4_42 : LK RX4 42 yX3_all := Or.inl (Tz_mem (tz2 (List.mem_of_getElem? (i := 229) rfl)) rfl)
theorem k_X4_45 : LK RX4 45 yX4_waysByLesser := Or.inl (Tz_mem (tz2 (List.mem_of_getElem? (i := 230) rfl)) rfl)
theorem k_X4_49 : LK RX4 49 yX4_thingFor := Or.inl (Tz_mem (tz2 (List.mem_of_getElem? (i := 239) rfl)) rfl)
theorem k_X4_52 : LK RX4 52 yX4_withoutLast := Or.inl (Tz_mem (tz4 (List.mem_of_getElem? (i := 123) rfl)) rfl)
theorem k_X4_56 : LK RX4 56 yX4_fill := Or.inl (Tz_mem (tz4 (List.mem_of_getElem? (i := 126) rfl)) rfl)
theorem k_X4_59 : LK RX4 59 yX3_hasThing := Or.inl (Tz_mem (tz4 (List.mem_of_getElem? (i := 127) rfl)) rfl)
theorem k_X4_63 : LK RX4 63 yX6_has := Or.inr ⟨"Belowhouse", Tz_mem (tz4 (List.mem_of_getElem? (i := 147) rfl)) rfl⟩
theorem k_X4_66 : LK RX4 66 yX4_waysThrough := Or.inl (Tz_mem (tz4 (List.mem_of_getElem? (i := 148) rfl)) rfl)
theorem k_X4_69 : LK RX4 69 yJ6_bitCount_0f7a4 := Or.inl (Tz_mem (tz4 (List.mem_of_getElem? (i := 163) rfl)) rfl)
theorem k_X5_88 : LK RX5 88 yX3_isBelow := Or.inl (Tz_mem (tz5 (List.mem_of_getElem? (i := 5) rfl)) rfl)
theorem k_X5_95 : LK RX5 95 yX3_allBelow := Or.inl (Tz_mem (tz5 (List.mem_of_getElem? (i := 6) rfl)) rfl)
theorem k_X5_99 : LK RX5 99 yX6_isWithin := Or.inr ⟨"Belowhouse", Tz_mem (tz5 (List.mem_of_getElem? (i := 7) rfl)) rfl⟩
theorem k_X5_106 : LK RX5 106 yX3_become := Or.inl (Tz_mem (tz5 (List.mem_of_getElem? (i := 16) rfl)) rfl)
theorem k_X5_110 : LK RX5 110 yX3_link := Or.inl (Tz_mem (tz5 (List.mem_of_getElem? (i := 17) rfl)) rfl)
theorem k_X5_49 : LK RX5 49 yX5_isOrdered := Or.inl (Tz_mem (tz5 (List.mem_of_getElem? (i := 2) rfl)) rfl)
theorem k_X5_114 : LK RX5 114 yX3_hasPairsOf := Or.inl (Tz_mem (tz5 (List.mem_of_getElem? (i := 18) rfl)) rfl)
theorem k_X5_102 : LK RX5 102 yX5_linksLeastFor := Or.inl (Tz_mem (tz5 (List.mem_of_getElem? (i := 12) rfl)) rfl)
theorem k_X5_117 : LK RX5 117 yX3_isNextBelow := Or.inl (Tz_mem (tz5 (List.mem_of_getElem? (i := 23) rfl)) rfl)
theorem k_X5_120 : LK RX5 120 yX3_cut := Or.inl (Tz_mem (tz5 (List.mem_of_getElem? (i := 24) rfl)) rfl)
theorem k_X5_124 : LK RX5 124 yX3_all := Or.inl (Tz_mem (tz5 (List.mem_of_getElem? (i := 29) rfl)) rfl)
theorem k_X5_128 : LK RX5 128 yX3_greatestOf := Or.inl (Tz_mem (tz5 (List.mem_of_getElem? (i := 30) rfl)) rfl)
theorem k_X5_138 : LK RX5 138 yX4_count := Or.inl (Tz_mem (tz5 (List.mem_of_getElem? (i := 33) rfl)) rfl)
theorem k_X5_131 : LK RX5 131 yX6_has := Or.inr ⟨"Belowhouse", Tz_mem (tz5 (List.mem_of_getElem? (i := 31) rfl)) rfl⟩
theorem k_X5_134 : LK RX5 134 yX3_retain := Or.inl (Tz_mem (tz5 (List.mem_of_getElem? (i := 32) rfl)) rfl)
theorem k_X5_148 : LK RX5 148 yX4_countAhead := Or.inl (Tz_mem (tz5 (List.mem_of_getElem? (i := 43) rfl)) rfl)
theorem k_X5_141 : LK RX5 141 yX4_fill := Or.inl (Tz_mem (tz5 (List.mem_of_getElem? (i := 38) rfl)) rfl)
theorem k_X5_144 : LK RX5 144 yX5_rowsTellPair := Or.inl (Tz_mem (tz5 (List.mem_of_getElem? (i := 39) rfl)) rfl)
theorem k_X5_152 : LK RX5 152 yX0_chainCover := Or.inl (Tz_mem (tz5 (List.mem_of_getElem? (i := 48) rfl)) rfl)
theorem k_X5_155 : LK RX5 155 yX0_mostApart := Or.inl (Tz_mem (tz5 (List.mem_of_getElem? (i := 49) rfl)) rfl)
theorem k_X5_158 : LK RX5 158 yX0_layerCount := Or.inl (Tz_mem (tz5 (List.mem_of_getElem? (i := 50) rfl)) rfl)
theorem k_X5_161 : LK RX5 161 yX0_longestWithin := Or.inl (Tz_mem (tz5 (List.mem_of_getElem? (i := 51) rfl)) rfl)
theorem k_X5_191 : LK RX5 191 yX3_filledUp := Or.inl (Tz_mem (tz5 (List.mem_of_getElem? (i := 66) rfl)) rfl)
theorem k_X5_188 : LK RX5 188 yX3_canCome := Or.inl (Tz_mem (tz5 (List.mem_of_getElem? (i := 65) rfl)) rfl)
theorem k_X5_194 : LK RX5 194 yX3_aboveOf := Or.inl (Tz_mem (tz5 (List.mem_of_getElem? (i := 71) rfl)) rfl)
theorem k_X5_165 : LK RX5 165 yX3_setLimit := Or.inl (Tz_mem (tz5 (List.mem_of_getElem? (i := 56) rfl)) rfl)
theorem k_X5_172 : LK RX5 172 yX4_isReached := Or.inl (Tz_mem (tz5 (List.mem_of_getElem? (i := 58) rfl)) rfl)
theorem k_X5_182 : LK RX5 182 yX1_count := Or.inl (Tz_mem (tz5 (List.mem_of_getElem? (i := 72) rfl)) rfl)
theorem k_X5_185 : LK RX5 185 yX0_apartCount := Or.inl (Tz_mem (tz5 (List.mem_of_getElem? (i := 73) rfl)) rfl)
theorem k_X5_179 : LK RX5 179 yX5_staysClosedBy := Or.inl (Tz_mem (tz5 (List.mem_of_getElem? (i := 67) rfl)) rfl)
theorem k_X5_168 : LK RX5 168 yX3_isClosedBelow := Or.inl (Tz_mem (tz5 (List.mem_of_getElem? (i := 57) rfl)) rfl)
theorem k_X5_175 : LK RX5 175 yX5_closedSetFits := Or.inl (Tz_mem (tz5 (List.mem_of_getElem? (i := 62) rfl)) rfl)
theorem k_X5_197 : LK RX5 197 yX2_undoSums := Or.inl (Tz_mem (tz5 (List.mem_of_getElem? (i := 78) rfl)) rfl)
theorem k_X5_203 : LK RX5 203 yX2_vanishFrom := Or.inl (Tz_mem (tz5 (List.mem_of_getElem? (i := 79) rfl)) rfl)
theorem k_X5_212 : LK RX5 212 yJ6_bitCount_0f7a4 := Or.inl (Tz_mem (tz5 (List.mem_of_getElem? (i := 92) rfl)) rfl)
theorem k_X5_206 : LK RX5 206 yX3_becomeTurned := Or.inl (Tz_mem (tz5 (List.mem_of_getElem? (i := 87) rfl)) rfl)
theorem k_X5_209 : LK RX5 209 yX5_sizesTurn := Or.inl (Tz_mem (tz5 (List.mem_of_getElem? (i := 88) rfl)) rfl)
theorem k_X5_53 : LK RX5 53 yX5_linksLeast := Or.inl (Tz_mem (tz5 (List.mem_of_getElem? (i := 8) rfl)) rfl)
theorem k_X5_56 : LK RX5 56 yX5_looseComesBack := Or.inl (Tz_mem (tz5 (List.mem_of_getElem? (i := 19) rfl)) rfl)
theorem k_X5_59 : LK RX5 59 yX5_growsByGreatest := Or.inl (Tz_mem (tz5 (List.mem_of_getElem? (i := 25) rfl)) rfl)
theorem k_X5_62 : LK RX5 62 yX5_rowsTellPairs := Or.inl (Tz_mem (tz5 (List.mem_of_getElem? (i := 34) rfl)) rfl)
theorem k_X5_65 : LK RX5 65 yX5_coversFit := Or.inl (Tz_mem (tz5 (List.mem_of_getElem? (i := 44) rfl)) rfl)
theorem k_X5_68 : LK RX5 68 yX5_closedSetsFit := Or.inl (Tz_mem (tz5 (List.mem_of_getElem? (i := 52) rfl)) rfl)
theorem k_X5_71 : LK RX5 71 yX5_sumsAreUndone := Or.inl (Tz_mem (tz5 (List.mem_of_getElem? (i := 74) rfl)) rfl)
theorem k_X5_74 : LK RX5 74 yX5_turnsRound := Or.inl (Tz_mem (tz5 (List.mem_of_getElem? (i := 83) rfl)) rfl)
theorem k_X5_217 : LK RX5 217 yX3_becomeJoined := Or.inl (Tz_mem (tz5 (List.mem_of_getElem? (i := 108) rfl)) rfl)
theorem k_X5_221 : LK RX5 221 yX5_waysToChoose := Or.inl (Tz_mem (tz5 (List.mem_of_getElem? (i := 109) rfl)) rfl)
theorem k_X5_224 : LK RX5 224 yX5_longestOf := Or.inl (Tz_mem (tz5 (List.mem_of_getElem? (i := 112) rfl)) rfl)
theorem km_X5_227 : Cond.methodLink RX5 227 yJ9_max_7cf53 ∈ Tz := Tz_mem (tz5 (List.mem_of_getElem? (i := 115) rfl)) rfl
theorem k_X5_77 : LK RX5 77 yX5_besideFits := Or.inl (Tz_mem (tz5 (List.mem_of_getElem? (i := 104) rfl)) rfl)
theorem k_X5_81 : LK RX5 81 yX5_aboveFits := Or.inl (Tz_mem (tz5 (List.mem_of_getElem? (i := 116) rfl)) rfl)
theorem k_X6_189 : LK RX6 189 yX1_count := Or.inl (Tz_mem (tz1 (List.mem_of_getElem? (i := 159) rfl)) rfl)
theorem k_X6_231 : LK RX6 231 yX4_count := Or.inl (Tz_mem (tz1 (List.mem_of_getElem? (i := 176) rfl)) rfl)
theorem k_X6_176 : LK RX6 176 yX0_mostApart := Or.inl (Tz_mem (tz1 (List.mem_of_getElem? (i := 189) rfl)) rfl)
theorem k_X6_92 : LK RX6 92 yX3_all := Or.inl (Tz_mem (tz1 (List.mem_of_getElem? (i := 206) rfl)) rfl)
theorem k_X6_172 : LK RX6 172 yX0_longestWithin := Or.inl (Tz_mem (tz1 (List.mem_of_getElem? (i := 211) rfl)) rfl)
theorem k_X6_273 : LK RX6 273 yX6_mixedIn := Or.inl (Tz_mem (tz1 (List.mem_of_getElem? (i := 154) rfl)) rfl)
theorem km_X6_306 : Cond.methodLink RX6 306 yJ9_max_7cf53 ∈ Tz := Tz_mem (tz4 (List.mem_of_getElem? (i := 174) rfl)) rfl
theorem k_X7_39 : LK RX7 39 yX7_in := Or.inl (Tz_mem (tz5 (List.mem_of_getElem? (i := 168) rfl)) rfl)
theorem k_X7_43 : LK RX7 43 yX7_isOrder := Or.inl (Tz_mem (tz5 (List.mem_of_getElem? (i := 165) rfl)) rfl)
theorem k_X7_47 : LK RX7 47 yX7_has := Or.inl (Tz_mem (tz5 (List.mem_of_getElem? (i := 203) rfl)) rfl)
theorem k_X7_51 : LK RX7 51 yX7_lets := Or.inl (Tz_mem (tz5 (List.mem_of_getElem? (i := 171) rfl)) rfl)
theorem k_X7_55 : LK RX7 55 yX7_empty := Or.inl (Tz_mem (tz5 (List.mem_of_getElem? (i := 175) rfl)) rfl)
theorem k_X7_59 : LK RX7 59 yX7_pairsOf := Or.inl (Tz_mem (tz5 (List.mem_of_getElem? (i := 183) rfl)) rfl)
theorem k_X7_63 : LK RX7 63 yX7_becomes := Or.inl (Tz_mem (tz5 (List.mem_of_getElem? (i := 206) rfl)) rfl)
theorem k_X7_66 : LK RX7 66 yX7_isThing := Or.inl (Tz_mem (tz5 (List.mem_of_getElem? (i := 195) rfl)) rfl)
theorem k_X7_69 : LK RX7 69 yX7_stay := Or.inl (Tz_mem (tz5 (List.mem_of_getElem? (i := 199) rfl)) rfl)
theorem k_X7_72 : LK RX7 72 yX7_isSet := Or.inl (Tz_mem (tz5 (List.mem_of_getElem? (i := 214) rfl)) rfl)
theorem k_X7_75 : LK RX7 75 yX7_isUpTo := Or.inl (Tz_mem (tz5 (List.mem_of_getElem? (i := 226) rfl)) rfl)
theorem k_X7_78 : LK RX7 78 yX7_next := Or.inl (Tz_mem (tz5 (List.mem_of_getElem? (i := 234) rfl)) rfl)
theorem k_X7_108 : LK RX7 108 yX7_manyIn := Or.inl (Tz_mem (tz6 (List.mem_of_getElem? (i := 14) rfl)) rfl)
theorem k_X7_95 : LK RX7 95 yX7_lowerOf := Or.inl (Tz_mem (tz6 (List.mem_of_getElem? (i := 10) rfl)) rfl)
theorem k_X7_133 : LK RX7 133 yX7_follow := Or.inl (Tz_mem (tz6 (List.mem_of_getElem? (i := 6) rfl)) rfl)
theorem k_X7_81 : LK RX7 81 yX7_rowsOf := Or.inl (Tz_mem (tz6 (List.mem_of_getElem? (i := 2) rfl)) rfl)
theorem k_X7_84 : LK RX7 84 yX7_lineUp := Or.inl (Tz_mem (tz6 (List.mem_of_getElem? (i := 17) rfl)) rfl)
theorem k_X7_88 : LK RX7 88 yX7_canJoin := Or.inl (Tz_mem (tz6 (List.mem_of_getElem? (i := 33) rfl)) rfl)
theorem k_X7_91 : LK RX7 91 yX7_joins := Or.inl (Tz_mem (tz6 (List.mem_of_getElem? (i := 37) rfl)) rfl)
theorem k_X7_98 : LK RX7 98 yX7_upperOf := Or.inl (Tz_mem (tz6 (List.mem_of_getElem? (i := 77) rfl)) rfl)
theorem k_X7_101 : LK RX7 101 yX7_isAll := Or.inl (Tz_mem (tz6 (List.mem_of_getElem? (i := 97) rfl)) rfl)
theorem k_X7_105 : LK RX7 105 yX7_levelOf := Or.inl (Tz_mem (tz6 (List.mem_of_getElem? (i := 109) rfl)) rfl)
theorem k_X7_111 : LK RX7 111 yX7_mostOf := Or.inl (Tz_mem (tz6 (List.mem_of_getElem? (i := 117) rfl)) rfl)
theorem k_X7_115 : LK RX7 115 yX7_fewestOf := Or.inl (Tz_mem (tz6 (List.mem_of_getElem? (i := 129) rfl)) rfl)
theorem k_X7_118 : LK RX7 118 yX7_closure := Or.inl (Tz_mem (tz6 (List.mem_of_getElem? (i := 153) rfl)) rfl)
theorem k_X7_121 : LK RX7 121 yX7_isAhead := Or.inl (Tz_mem (tz6 (List.mem_of_getElem? (i := 173) rfl)) rfl)
theorem k_X7_124 : LK RX7 124 yX7_isClosed := Or.inl (Tz_mem (tz6 (List.mem_of_getElem? (i := 149) rfl)) rfl)
theorem k_X7_127 : LK RX7 127 yX7_manyOf := Or.inl (Tz_mem (tz6 (List.mem_of_getElem? (i := 145) rfl)) rfl)
theorem k_X7_130 : LK RX7 130 yX7_placeIn := Or.inl (Tz_mem (tz6 (List.mem_of_getElem? (i := 169) rfl)) rfl)
theorem k_X7_137 : LK RX7 137 yX7_placeOfRow := Or.inl (Tz_mem (tz6 (List.mem_of_getElem? (i := 208) rfl)) rfl)
theorem k_X7_140 : LK RX7 140 yX7_with := Or.inl (Tz_mem (tz6 (List.mem_of_getElem? (i := 220) rfl)) rfl)
theorem k_X7_144 : LK RX7 144 yX7_at := Or.inl (Tz_mem (tz6 (List.mem_of_getElem? (i := 228) rfl)) rfl)
theorem k_X7_147 : LK RX7 147 yX7_numberOf := Or.inl (Tz_mem (tz7 (List.mem_of_getElem? (i := 12) rfl)) rfl)
theorem k_X7_150 : LK RX7 150 yX7_sumOf := Or.inl (Tz_mem (tz7 (List.mem_of_getElem? (i := 4) rfl)) rfl)
theorem kf_X3_22 : Cond.fieldLink RX3 22 RX3 "count" "I" ∈ Tz := Tz_mem (tz1 (List.mem_of_getElem? (i := 33) rfl)) rfl
theorem kf_X3_9 : Cond.fieldLink RX3 9 RX3 "below" "[I" ∈ Tz := Tz_mem (tz1 (List.mem_of_getElem? (i := 39) rfl)) rfl
theorem kf_X0_50 : Cond.fieldLink RX0 50 RX3 "count" "I" ∈ Tz := Tz_mem (tz1 (List.mem_of_getElem? (i := 37) rfl)) rfl
theorem kf_X0_9 : Cond.fieldLink RX0 9 RX0 "ahead" "[I" ∈ Tz := Tz_mem (tz1 (List.mem_of_getElem? (i := 60) rfl)) rfl
theorem kf_X0_15 : Cond.fieldLink RX0 15 RX0 "searched" "[I" ∈ Tz := Tz_mem (tz1 (List.mem_of_getElem? (i := 61) rfl)) rfl
theorem kf_X1_31 : Cond.fieldLink RX1 31 RX3 "count" "I" ∈ Tz := Tz_mem (tz1 (List.mem_of_getElem? (i := 38) rfl)) rfl
theorem kf_X2_19 : Cond.fieldLink RX2 19 RX3 "count" "I" ∈ Tz := Tz_mem (tz1 (List.mem_of_getElem? (i := 35) rfl)) rfl
theorem kf_X2_33 : Cond.fieldLink RX2 33 RX3 "below" "[I" ∈ Tz := Tz_mem (tz1 (List.mem_of_getElem? (i := 41) rfl)) rfl
theorem kf_X2_9 : Cond.fieldLink RX2 9 RX2 "ofHigh" "[I" ∈ Tz := Tz_mem (tz1 (List.mem_of_getElem? (i := 90) rfl)) rfl
theorem kf_X3_15 : Cond.fieldLink RX3 15 RX3 "values" "[I" ∈ Tz := Tz_mem (tz1 (List.mem_of_getElem? (i := 43) rfl)) rfl
theorem kf_X4_31 : Cond.fieldLink RX4 31 RX3 "count" "I" ∈ Tz := Tz_mem (tz1 (List.mem_of_getElem? (i := 34) rfl)) rfl
theorem kf_X4_9 : Cond.fieldLink RX4 9 RX4 "waysTo" "[I" ∈ Tz := Tz_mem (tz1 (List.mem_of_getElem? (i := 73) rfl)) rfl
theorem kf_X4_15 : Cond.fieldLink RX4 15 RX4 "waysOn" "[I" ∈ Tz := Tz_mem (tz1 (List.mem_of_getElem? (i := 74) rfl)) rfl
theorem kf_X4_18 : Cond.fieldLink RX4 18 RX4 "line" "[I" ∈ Tz := Tz_mem (tz1 (List.mem_of_getElem? (i := 75) rfl)) rfl
theorem kf_X5_84 : Cond.fieldLink RX5 84 RX3 "count" "I" ∈ Tz := Tz_mem (tz1 (List.mem_of_getElem? (i := 36) rfl)) rfl
theorem kf_X5_92 : Cond.fieldLink RX5 92 RX3 "below" "[I" ∈ Tz := Tz_mem (tz1 (List.mem_of_getElem? (i := 40) rfl)) rfl
theorem kf_X5_12 : Cond.fieldLink RX5 12 RX5 "tried" "LBelowhouse$Order;" ∈ Tz := Tz_mem (tz1 (List.mem_of_getElem? (i := 108) rfl)) rfl
theorem kf_X5_24 : Cond.fieldLink RX5 24 RX5 "table" "LBelowhouse$RowTable;" ∈ Tz := Tz_mem (tz1 (List.mem_of_getElem? (i := 110) rfl)) rfl
theorem kf_X5_28 : Cond.fieldLink RX5 28 RX5 "triedTable" "LBelowhouse$RowTable;" ∈ Tz := Tz_mem (tz1 (List.mem_of_getElem? (i := 111) rfl)) rfl
theorem kf_X5_34 : Cond.fieldLink RX5 34 RX5 "chains" "LBelowhouse$Chains;" ∈ Tz := Tz_mem (tz1 (List.mem_of_getElem? (i := 112) rfl)) rfl
theorem kf_X5_41 : Cond.fieldLink RX5 41 RX5 "numbers" "LBelowhouse$Numbers;" ∈ Tz := Tz_mem (tz1 (List.mem_of_getElem? (i := 113) rfl)) rfl
theorem kf_X5_200 : Cond.fieldLink RX5 200 RX3 "values" "[I" ∈ Tz := Tz_mem (tz1 (List.mem_of_getElem? (i := 45) rfl)) rfl
theorem kf_X5_45 : Cond.fieldLink RX5 45 RX5 "sizes" "[I" ∈ Tz := Tz_mem (tz1 (List.mem_of_getElem? (i := 114) rfl)) rfl
theorem kf_X5_18 : Cond.fieldLink RX5 18 RX5 "turned" "LBelowhouse$Order;" ∈ Tz := Tz_mem (tz1 (List.mem_of_getElem? (i := 109) rfl)) rfl
theorem kf_X6_56 : Cond.fieldLink RX6 56 RX3 "count" "I" ∈ Tz := Tz_mem (tz1 (List.mem_of_getElem? (i := 32) rfl)) rfl
theorem kf_X6_30 : Cond.fieldLink RX6 30 RX6 "table" "LBelowhouse$RowTable;" ∈ Tz := Tz_mem (tz1 (List.mem_of_getElem? (i := 133) rfl)) rfl
theorem kf_X6_149 : Cond.fieldLink RX6 149 RX3 "below" "[I" ∈ Tz := Tz_mem (tz1 (List.mem_of_getElem? (i := 42) rfl)) rfl
theorem kf_X6_88 : Cond.fieldLink RX6 88 RX3 "values" "[I" ∈ Tz := Tz_mem (tz1 (List.mem_of_getElem? (i := 44) rfl)) rfl
theorem kf_X6_11 : Cond.fieldLink RX6 11 RX6 "orders" "[LBelowhouse$Order;" ∈ Tz := Tz_mem (tz1 (List.mem_of_getElem? (i := 130) rfl)) rfl
theorem kf_X7_35 : Cond.fieldLink RX7 35 RX7 "code" "I" ∈ Tz := Tz_mem (tz5 (List.mem_of_getElem? (i := 134) rfl)) rfl
theorem kf_X7_9 : Cond.fieldLink RX7 9 RX7 "things" "[I" ∈ Tz := Tz_mem (tz5 (List.mem_of_getElem? (i := 131) rfl)) rfl
theorem kf_X7_15 : Cond.fieldLink RX7 15 RX7 "values" "[[I" ∈ Tz := Tz_mem (tz5 (List.mem_of_getElem? (i := 132) rfl)) rfl
theorem kf_X7_20 : Cond.fieldLink RX7 20 RX7 "below" "[[[Z" ∈ Tz := Tz_mem (tz5 (List.mem_of_getElem? (i := 133) rfl)) rfl
theorem kf_X7_29 : Cond.fieldLink RX7 29 RX7 "line" "[I" ∈ Tz := Tz_mem (tz5 (List.mem_of_getElem? (i := 137) rfl)) rfl
theorem kf_X7_23 : Cond.fieldLink RX7 23 RX7 "ways" "[I" ∈ Tz := Tz_mem (tz5 (List.mem_of_getElem? (i := 135) rfl)) rfl
theorem kf_X7_32 : Cond.fieldLink RX7 32 RX7 "lows" "[I" ∈ Tz := Tz_mem (tz5 (List.mem_of_getElem? (i := 138) rfl)) rfl
theorem kf_X7_26 : Cond.fieldLink RX7 26 RX7 "parts" "[I" ∈ Tz := Tz_mem (tz5 (List.mem_of_getElem? (i := 136) rfl)) rfl
theorem ky_J6_bitCount_0f7a4 : CY yJ6_bitCount_0f7a4 cJ6_bitCount_0f7a4 1 (some .int) 1 := ⟨Tz_mem (tz1 (List.mem_of_getElem? (i := 199) rfl)) rfl, Tz_mem (tz1 (List.mem_of_getElem? (i := 13) rfl)) rfl, ⟨by decide +kernel, by decide +kernel⟩, by decide +kernel⟩
theorem ky_X6_has : CY yX6_has cX6_has 2 (some .boolean) 2 := ⟨Tz_mem (tz1 (List.mem_of_getElem? (i := 172) rfl)) rfl, Tz_mem (tz1 (List.mem_of_getElem? (i := 1) rfl)) rfl, ⟨by decide +kernel, by decide +kernel⟩, by decide +kernel⟩
theorem ky_X3_setLimit : CY yX3_setLimit cX3_setLimit 1 (some .int) 0 := ⟨Tz_mem (tz1 (List.mem_of_getElem? (i := 165) rfl)) rfl, Tz_mem (tz1 (List.mem_of_getElem? (i := 2) rfl)) rfl, ⟨by decide +kernel, by decide +kernel⟩, by decide +kernel⟩
theorem ky_X6_isWithin : CY yX6_isWithin cX6_isWithin 2 (some .boolean) 2 := ⟨Tz_mem (tz1 (List.mem_of_getElem? (i := 175) rfl)) rfl, Tz_mem (tz1 (List.mem_of_getElem? (i := 1) rfl)) rfl, ⟨by decide +kernel, by decide +kernel⟩, by decide +kernel⟩
theorem ky_X3_isInLine : CY yX3_isInLine cX3_isInLine 4 (some .boolean) 1 := ⟨Tz_mem (tz1 (List.mem_of_getElem? (i := 218) rfl)) rfl, Tz_mem (tz1 (List.mem_of_getElem? (i := 2) rfl)) rfl, ⟨by decide +kernel, by decide +kernel⟩, by decide +kernel⟩
theorem ky_X3_isUnordered : CY yX3_isUnordered cX3_isUnordered 3 (some .boolean) 1 := ⟨Tz_mem (tz1 (List.mem_of_getElem? (i := 196) rfl)) rfl, Tz_mem (tz1 (List.mem_of_getElem? (i := 2) rfl)) rfl, ⟨by decide +kernel, by decide +kernel⟩, by decide +kernel⟩
theorem ky_X3_all : CY yX3_all cX3_all 1 (some .int) 0 := ⟨Tz_mem (tz1 (List.mem_of_getElem? (i := 209) rfl)) rfl, Tz_mem (tz1 (List.mem_of_getElem? (i := 2) rfl)) rfl, ⟨by decide +kernel, by decide +kernel⟩, by decide +kernel⟩
theorem ky_X3_leastOf : CY yX3_leastOf cX3_leastOf 4 (some .int) 1 := ⟨Tz_mem (tz3 (List.mem_of_getElem? (i := 144) rfl)) rfl, Tz_mem (tz1 (List.mem_of_getElem? (i := 2) rfl)) rfl, ⟨by decide +kernel, by decide +kernel⟩, by decide +kernel⟩
theorem ky_X3_hasThing : CY yX3_hasThing cX3_hasThing 2 (some .boolean) 1 := ⟨Tz_mem (tz2 (List.mem_of_getElem? (i := 145) rfl)) rfl, Tz_mem (tz1 (List.mem_of_getElem? (i := 2) rfl)) rfl, ⟨by decide +kernel, by decide +kernel⟩, by decide +kernel⟩
theorem ky_X3_isBelow : CY yX3_isBelow cX3_isBelow 3 (some .boolean) 2 := ⟨Tz_mem (tz2 (List.mem_of_getElem? (i := 192) rfl)) rfl, Tz_mem (tz1 (List.mem_of_getElem? (i := 2) rfl)) rfl, ⟨by decide +kernel, by decide +kernel⟩, by decide +kernel⟩
theorem ky_X0_findsFollower : CY yX0_findsFollower cX0_findsFollower 7 (some .boolean) 6 := ⟨Tz_mem (tz3 (List.mem_of_getElem? (i := 213) rfl)) rfl, Tz_mem (tz1 (List.mem_of_getElem? (i := 3) rfl)) rfl, ⟨by decide +kernel, by decide +kernel⟩, by decide +kernel⟩
theorem ky_X3_isClosedBelow : CY yX3_isClosedBelow cX3_isClosedBelow 3 (some .boolean) 1 := ⟨Tz_mem (tz1 (List.mem_of_getElem? (i := 169) rfl)) rfl, Tz_mem (tz1 (List.mem_of_getElem? (i := 2) rfl)) rfl, ⟨by decide +kernel, by decide +kernel⟩, by decide +kernel⟩
theorem ky_X1_isAhead : CY yX1_isAhead cX1_isAhead 3 (some .boolean) 2 := ⟨Tz_mem (tz4 (List.mem_of_getElem? (i := 40) rfl)) rfl, Tz_mem (tz1 (List.mem_of_getElem? (i := 16) rfl)) rfl, ⟨by decide +kernel, by decide +kernel⟩, by decide +kernel⟩
theorem ky_X2_sumBelow : CY yX2_sumBelow cX2_sumBelow 5 (some .int) 2 := ⟨Tz_mem (tz4 (List.mem_of_getElem? (i := 216) rfl)) rfl, Tz_mem (tz1 (List.mem_of_getElem? (i := 5) rfl)) rfl, ⟨by decide +kernel, by decide +kernel⟩, by decide +kernel⟩
theorem ky_X2_fillFrom : CY yX2_fillFrom cX2_fillFrom 5 none 2 := ⟨Tz_mem (tz4 (List.mem_of_getElem? (i := 211) rfl)) rfl, Tz_mem (tz1 (List.mem_of_getElem? (i := 5) rfl)) rfl, ⟨by decide +kernel, by decide +kernel⟩, by decide +kernel⟩
theorem ky_X3_sumUpTo : CY yX3_sumUpTo cX3_sumUpTo 4 (some .int) 1 := ⟨Tz_mem (tz4 (List.mem_of_getElem? (i := 196) rfl)) rfl, Tz_mem (tz1 (List.mem_of_getElem? (i := 2) rfl)) rfl, ⟨by decide +kernel, by decide +kernel⟩, by decide +kernel⟩
theorem ky_X3_squeezed : CY yX3_squeezed cX3_squeezed 5 (some .int) 2 := ⟨Tz_mem (tz2 (List.mem_of_getElem? (i := 153) rfl)) rfl, Tz_mem (tz1 (List.mem_of_getElem? (i := 2) rfl)) rfl, ⟨by decide +kernel, by decide +kernel⟩, by decide +kernel⟩
theorem ky_X3_pairCount : CY yX3_pairCount cX3_pairCount 3 (some .int) 0 := ⟨Tz_mem (tz2 (List.mem_of_getElem? (i := 98) rfl)) rfl, Tz_mem (tz1 (List.mem_of_getElem? (i := 2) rfl)) rfl, ⟨by decide +kernel, by decide +kernel⟩, by decide +kernel⟩
theorem ky_X3_clearTo : CY yX3_clearTo cX3_clearTo 3 none 1 := ⟨Tz_mem (tz2 (List.mem_of_getElem? (i := 83) rfl)) rfl, Tz_mem (tz1 (List.mem_of_getElem? (i := 2) rfl)) rfl, ⟨by decide +kernel, by decide +kernel⟩, by decide +kernel⟩
theorem ky_X3_aboveOf : CY yX3_aboveOf cX3_aboveOf 4 (some .int) 1 := ⟨Tz_mem (tz2 (List.mem_of_getElem? (i := 208) rfl)) rfl, Tz_mem (tz1 (List.mem_of_getElem? (i := 2) rfl)) rfl, ⟨by decide +kernel, by decide +kernel⟩, by decide +kernel⟩
theorem ky_X3_become : CY yX3_become cX3_become 3 none 1 := ⟨Tz_mem (tz3 (List.mem_of_getElem? (i := 23) rfl)) rfl, Tz_mem (tz1 (List.mem_of_getElem? (i := 2) rfl)) rfl, ⟨by decide +kernel, by decide +kernel⟩, by decide +kernel⟩
theorem ky_X3_allBelow : CY yX3_allBelow cX3_allBelow 4 (some .int) 1 := ⟨Tz_mem (tz3 (List.mem_of_getElem? (i := 102) rfl)) rfl, Tz_mem (tz1 (List.mem_of_getElem? (i := 2) rfl)) rfl, ⟨by decide +kernel, by decide +kernel⟩, by decide +kernel⟩
theorem ky_X3_greatestOf : CY yX3_greatestOf cX3_greatestOf 2 (some .int) 1 := ⟨Tz_mem (tz3 (List.mem_of_getElem? (i := 98) rfl)) rfl, Tz_mem (tz1 (List.mem_of_getElem? (i := 2) rfl)) rfl, ⟨by decide +kernel, by decide +kernel⟩, by decide +kernel⟩
theorem ky_X3_canCome : CY yX3_canCome cX3_canCome 3 (some .boolean) 2 := ⟨Tz_mem (tz1 (List.mem_of_getElem? (i := 188) rfl)) rfl, Tz_mem (tz1 (List.mem_of_getElem? (i := 2) rfl)) rfl, ⟨by decide +kernel, by decide +kernel⟩, by decide +kernel⟩
theorem ky_X4_passOn : CY yX4_passOn cX4_passOn 4 none 2 := ⟨Tz_mem (tz1 (List.mem_of_getElem? (i := 184) rfl)) rfl, Tz_mem (tz1 (List.mem_of_getElem? (i := 4) rfl)) rfl, ⟨by decide +kernel, by decide +kernel⟩, by decide +kernel⟩
theorem ky_X4_count : CY yX4_count cX4_count 4 (some .int) 1 := ⟨Tz_mem (tz1 (List.mem_of_getElem? (i := 179) rfl)) rfl, Tz_mem (tz1 (List.mem_of_getElem? (i := 4) rfl)) rfl, ⟨by decide +kernel, by decide +kernel⟩, by decide +kernel⟩
theorem ky_X4_waysByLesser : CY yX4_waysByLesser cX4_waysByLesser 6 (some .int) 3 := ⟨Tz_mem (tz2 (List.mem_of_getElem? (i := 233) rfl)) rfl, Tz_mem (tz1 (List.mem_of_getElem? (i := 4) rfl)) rfl, ⟨by decide +kernel, by decide +kernel⟩, by decide +kernel⟩
theorem ky_X4_thingFor : CY yX4_thingFor cX4_thingFor 6 (some .int) 3 := ⟨Tz_mem (tz3 (List.mem_of_getElem? (i := 2) rfl)) rfl, Tz_mem (tz1 (List.mem_of_getElem? (i := 4) rfl)) rfl, ⟨by decide +kernel, by decide +kernel⟩, by decide +kernel⟩
theorem ky_X4_withoutLast : CY yX4_withoutLast cX4_withoutLast 4 (some .int) 2 := ⟨Tz_mem (tz4 (List.mem_of_getElem? (i := 125) rfl)) rfl, Tz_mem (tz1 (List.mem_of_getElem? (i := 4) rfl)) rfl, ⟨by decide +kernel, by decide +kernel⟩, by decide +kernel⟩
theorem ky_X4_fill : CY yX4_fill cX4_fill 4 (some .int) 1 := ⟨Tz_mem (tz2 (List.mem_of_getElem? (i := 227) rfl)) rfl, Tz_mem (tz1 (List.mem_of_getElem? (i := 4) rfl)) rfl, ⟨by decide +kernel, by decide +kernel⟩, by decide +kernel⟩
theorem ky_X4_waysThrough : CY yX4_waysThrough cX4_waysThrough 4 (some .int) 3 := ⟨Tz_mem (tz4 (List.mem_of_getElem? (i := 151) rfl)) rfl, Tz_mem (tz1 (List.mem_of_getElem? (i := 4) rfl)) rfl, ⟨by decide +kernel, by decide +kernel⟩, by decide +kernel⟩
theorem ky_X3_link : CY yX3_link cX3_link 6 (some .int) 2 := ⟨Tz_mem (tz2 (List.mem_of_getElem? (i := 188) rfl)) rfl, Tz_mem (tz1 (List.mem_of_getElem? (i := 2) rfl)) rfl, ⟨by decide +kernel, by decide +kernel⟩, by decide +kernel⟩
theorem ky_X5_isOrdered : CY yX5_isOrdered cX5_isOrdered 2 (some .boolean) 1 := ⟨Tz_mem (tz5 (List.mem_of_getElem? (i := 4) rfl)) rfl, Tz_mem (tz1 (List.mem_of_getElem? (i := 6) rfl)) rfl, ⟨by decide +kernel, by decide +kernel⟩, by decide +kernel⟩
theorem ky_X3_hasPairsOf : CY yX3_hasPairsOf cX3_hasPairsOf 3 (some .boolean) 1 := ⟨Tz_mem (tz3 (List.mem_of_getElem? (i := 162) rfl)) rfl, Tz_mem (tz1 (List.mem_of_getElem? (i := 2) rfl)) rfl, ⟨by decide +kernel, by decide +kernel⟩, by decide +kernel⟩
theorem ky_X5_linksLeastFor : CY yX5_linksLeastFor cX5_linksLeastFor 8 (some .boolean) 3 := ⟨Tz_mem (tz5 (List.mem_of_getElem? (i := 15) rfl)) rfl, Tz_mem (tz1 (List.mem_of_getElem? (i := 6) rfl)) rfl, ⟨by decide +kernel, by decide +kernel⟩, by decide +kernel⟩
theorem ky_X3_isNextBelow : CY yX3_isNextBelow cX3_isNextBelow 3 (some .boolean) 2 := ⟨Tz_mem (tz2 (List.mem_of_getElem? (i := 204) rfl)) rfl, Tz_mem (tz1 (List.mem_of_getElem? (i := 2) rfl)) rfl, ⟨by decide +kernel, by decide +kernel⟩, by decide +kernel⟩
theorem ky_X3_cut : CY yX3_cut cX3_cut 3 none 2 := ⟨Tz_mem (tz2 (List.mem_of_getElem? (i := 212) rfl)) rfl, Tz_mem (tz1 (List.mem_of_getElem? (i := 2) rfl)) rfl, ⟨by decide +kernel, by decide +kernel⟩, by decide +kernel⟩
theorem ky_X3_retain : CY yX3_retain cX3_retain 4 none 1 := ⟨Tz_mem (tz2 (List.mem_of_getElem? (i := 150) rfl)) rfl, Tz_mem (tz1 (List.mem_of_getElem? (i := 2) rfl)) rfl, ⟨by decide +kernel, by decide +kernel⟩, by decide +kernel⟩
theorem ky_X4_countAhead : CY yX4_countAhead cX4_countAhead 6 (some .int) 3 := ⟨Tz_mem (tz4 (List.mem_of_getElem? (i := 146) rfl)) rfl, Tz_mem (tz1 (List.mem_of_getElem? (i := 4) rfl)) rfl, ⟨by decide +kernel, by decide +kernel⟩, by decide +kernel⟩
theorem ky_X5_rowsTellPair : CY yX5_rowsTellPair cX5_rowsTellPair 6 (some .boolean) 4 := ⟨Tz_mem (tz5 (List.mem_of_getElem? (i := 42) rfl)) rfl, Tz_mem (tz1 (List.mem_of_getElem? (i := 6) rfl)) rfl, ⟨by decide +kernel, by decide +kernel⟩, by decide +kernel⟩
theorem ky_X0_chainCover : CY yX0_chainCover cX0_chainCover 4 (some .int) 1 := ⟨Tz_mem (tz3 (List.mem_of_getElem? (i := 210) rfl)) rfl, Tz_mem (tz1 (List.mem_of_getElem? (i := 3) rfl)) rfl, ⟨by decide +kernel, by decide +kernel⟩, by decide +kernel⟩
theorem ky_X0_mostApart : CY yX0_mostApart cX0_mostApart 3 (some .int) 1 := ⟨Tz_mem (tz1 (List.mem_of_getElem? (i := 191) rfl)) rfl, Tz_mem (tz1 (List.mem_of_getElem? (i := 3) rfl)) rfl, ⟨by decide +kernel, by decide +kernel⟩, by decide +kernel⟩
theorem ky_X0_layerCount : CY yX0_layerCount cX0_layerCount 4 (some .int) 1 := ⟨Tz_mem (tz3 (List.mem_of_getElem? (i := 225) rfl)) rfl, Tz_mem (tz1 (List.mem_of_getElem? (i := 3) rfl)) rfl, ⟨by decide +kernel, by decide +kernel⟩, by decide +kernel⟩
theorem ky_X0_longestWithin : CY yX0_longestWithin cX0_longestWithin 4 (some .int) 2 := ⟨Tz_mem (tz1 (List.mem_of_getElem? (i := 213) rfl)) rfl, Tz_mem (tz1 (List.mem_of_getElem? (i := 3) rfl)) rfl, ⟨by decide +kernel, by decide +kernel⟩, by decide +kernel⟩
theorem ky_X3_filledUp : CY yX3_filledUp cX3_filledUp 2 (some .int) 1 := ⟨Tz_mem (tz4 (List.mem_of_getElem? (i := 65) rfl)) rfl, Tz_mem (tz1 (List.mem_of_getElem? (i := 2) rfl)) rfl, ⟨by decide +kernel, by decide +kernel⟩, by decide +kernel⟩
theorem ky_X4_isReached : CY yX4_isReached cX4_isReached 2 (some .boolean) 1 := ⟨Tz_mem (tz5 (List.mem_of_getElem? (i := 61) rfl)) rfl, Tz_mem (tz1 (List.mem_of_getElem? (i := 4) rfl)) rfl, ⟨by decide +kernel, by decide +kernel⟩, by decide +kernel⟩
theorem ky_X1_count : CY yX1_count cX1_count 3 (some .int) 1 := ⟨Tz_mem (tz1 (List.mem_of_getElem? (i := 161) rfl)) rfl, Tz_mem (tz1 (List.mem_of_getElem? (i := 16) rfl)) rfl, ⟨by decide +kernel, by decide +kernel⟩, by decide +kernel⟩
theorem ky_X0_apartCount : CY yX0_apartCount cX0_apartCount 3 (some .int) 1 := ⟨Tz_mem (tz3 (List.mem_of_getElem? (i := 237) rfl)) rfl, Tz_mem (tz1 (List.mem_of_getElem? (i := 3) rfl)) rfl, ⟨by decide +kernel, by decide +kernel⟩, by decide +kernel⟩
theorem ky_X5_staysClosedBy : CY yX5_staysClosedBy cX5_staysClosedBy 6 (some .boolean) 2 := ⟨Tz_mem (tz5 (List.mem_of_getElem? (i := 70) rfl)) rfl, Tz_mem (tz1 (List.mem_of_getElem? (i := 6) rfl)) rfl, ⟨by decide +kernel, by decide +kernel⟩, by decide +kernel⟩
theorem ky_X5_closedSetFits : CY yX5_closedSetFits cX5_closedSetFits 4 (some .boolean) 2 := ⟨Tz_mem (tz5 (List.mem_of_getElem? (i := 64) rfl)) rfl, Tz_mem (tz1 (List.mem_of_getElem? (i := 6) rfl)) rfl, ⟨by decide +kernel, by decide +kernel⟩, by decide +kernel⟩
theorem ky_X2_undoSums : CY yX2_undoSums cX2_undoSums 5 (some .int) 2 := ⟨Tz_mem (tz4 (List.mem_of_getElem? (i := 228) rfl)) rfl, Tz_mem (tz1 (List.mem_of_getElem? (i := 5) rfl)) rfl, ⟨by decide +kernel, by decide +kernel⟩, by decide +kernel⟩
theorem ky_X2_vanishFrom : CY yX2_vanishFrom cX2_vanishFrom 6 (some .boolean) 2 := ⟨Tz_mem (tz5 (List.mem_of_getElem? (i := 82) rfl)) rfl, Tz_mem (tz1 (List.mem_of_getElem? (i := 5) rfl)) rfl, ⟨by decide +kernel, by decide +kernel⟩, by decide +kernel⟩
theorem ky_X3_becomeTurned : CY yX3_becomeTurned cX3_becomeTurned 3 none 1 := ⟨Tz_mem (tz3 (List.mem_of_getElem? (i := 18) rfl)) rfl, Tz_mem (tz1 (List.mem_of_getElem? (i := 2) rfl)) rfl, ⟨by decide +kernel, by decide +kernel⟩, by decide +kernel⟩
theorem ky_X5_sizesTurn : CY yX5_sizesTurn cX5_sizesTurn 4 (some .boolean) 1 := ⟨Tz_mem (tz5 (List.mem_of_getElem? (i := 91) rfl)) rfl, Tz_mem (tz1 (List.mem_of_getElem? (i := 6) rfl)) rfl, ⟨by decide +kernel, by decide +kernel⟩, by decide +kernel⟩
theorem ky_X5_linksLeast : CY yX5_linksLeast cX5_linksLeast 4 (some .boolean) 1 := ⟨Tz_mem (tz5 (List.mem_of_getElem? (i := 11) rfl)) rfl, Tz_mem (tz1 (List.mem_of_getElem? (i := 6) rfl)) rfl, ⟨by decide +kernel, by decide +kernel⟩, by decide +kernel⟩
theorem ky_X5_looseComesBack : CY yX5_looseComesBack cX5_looseComesBack 4 (some .boolean) 1 := ⟨Tz_mem (tz5 (List.mem_of_getElem? (i := 22) rfl)) rfl, Tz_mem (tz1 (List.mem_of_getElem? (i := 6) rfl)) rfl, ⟨by decide +kernel, by decide +kernel⟩, by decide +kernel⟩
theorem ky_X5_growsByGreatest : CY yX5_growsByGreatest cX5_growsByGreatest 5 (some .boolean) 1 := ⟨Tz_mem (tz5 (List.mem_of_getElem? (i := 28) rfl)) rfl, Tz_mem (tz1 (List.mem_of_getElem? (i := 6) rfl)) rfl, ⟨by decide +kernel, by decide +kernel⟩, by decide +kernel⟩
theorem ky_X5_rowsTellPairs : CY yX5_rowsTellPairs cX5_rowsTellPairs 5 (some .boolean) 1 := ⟨Tz_mem (tz5 (List.mem_of_getElem? (i := 37) rfl)) rfl, Tz_mem (tz1 (List.mem_of_getElem? (i := 6) rfl)) rfl, ⟨by decide +kernel, by decide +kernel⟩, by decide +kernel⟩
theorem ky_X5_coversFit : CY yX5_coversFit cX5_coversFit 2 (some .boolean) 1 := ⟨Tz_mem (tz5 (List.mem_of_getElem? (i := 47) rfl)) rfl, Tz_mem (tz1 (List.mem_of_getElem? (i := 6) rfl)) rfl, ⟨by decide +kernel, by decide +kernel⟩, by decide +kernel⟩
theorem ky_X5_closedSetsFit : CY yX5_closedSetsFit cX5_closedSetsFit 4 (some .boolean) 1 := ⟨Tz_mem (tz5 (List.mem_of_getElem? (i := 55) rfl)) rfl, Tz_mem (tz1 (List.mem_of_getElem? (i := 6) rfl)) rfl, ⟨by decide +kernel, by decide +kernel⟩, by decide +kernel⟩
theorem ky_X5_sumsAreUndone : CY yX5_sumsAreUndone cX5_sumsAreUndone 3 (some .boolean) 1 := ⟨Tz_mem (tz5 (List.mem_of_getElem? (i := 77) rfl)) rfl, Tz_mem (tz1 (List.mem_of_getElem? (i := 6) rfl)) rfl, ⟨by decide +kernel, by decide +kernel⟩, by decide +kernel⟩
theorem ky_X5_turnsRound : CY yX5_turnsRound cX5_turnsRound 2 (some .boolean) 1 := ⟨Tz_mem (tz5 (List.mem_of_getElem? (i := 86) rfl)) rfl, Tz_mem (tz1 (List.mem_of_getElem? (i := 6) rfl)) rfl, ⟨by decide +kernel, by decide +kernel⟩, by decide +kernel⟩
theorem ky_X3_becomeJoined : CY yX3_becomeJoined cX3_becomeJoined 6 none 3 := ⟨Tz_mem (tz3 (List.mem_of_getElem? (i := 46) rfl)) rfl, Tz_mem (tz1 (List.mem_of_getElem? (i := 2) rfl)) rfl, ⟨by decide +kernel, by decide +kernel⟩, by decide +kernel⟩
theorem ky_X5_waysToChoose : CY yX5_waysToChoose cX5_waysToChoose 4 (some .int) 2 := ⟨Tz_mem (tz5 (List.mem_of_getElem? (i := 111) rfl)) rfl, Tz_mem (tz1 (List.mem_of_getElem? (i := 6) rfl)) rfl, ⟨by decide +kernel, by decide +kernel⟩, by decide +kernel⟩
theorem ky_X5_longestOf : CY yX5_longestOf cX5_longestOf 1 (some .int) 1 := ⟨Tz_mem (tz5 (List.mem_of_getElem? (i := 114) rfl)) rfl, Tz_mem (tz1 (List.mem_of_getElem? (i := 6) rfl)) rfl, ⟨by decide +kernel, by decide +kernel⟩, by decide +kernel⟩
theorem ky_X5_besideFits : CY yX5_besideFits cX5_besideFits 4 (some .boolean) 2 := ⟨Tz_mem (tz5 (List.mem_of_getElem? (i := 107) rfl)) rfl, Tz_mem (tz1 (List.mem_of_getElem? (i := 6) rfl)) rfl, ⟨by decide +kernel, by decide +kernel⟩, by decide +kernel⟩
theorem ky_X5_aboveFits : CY yX5_aboveFits cX5_aboveFits 3 (some .boolean) 2 := ⟨Tz_mem (tz5 (List.mem_of_getElem? (i := 119) rfl)) rfl, Tz_mem (tz1 (List.mem_of_getElem? (i := 6) rfl)) rfl, ⟨by decide +kernel, by decide +kernel⟩, by decide +kernel⟩
theorem ky_X6_mixedIn : CY yX6_mixedIn cX6_mixedIn 7 (some .long) 2 := ⟨Tz_mem (tz1 (List.mem_of_getElem? (i := 157) rfl)) rfl, Tz_mem (tz1 (List.mem_of_getElem? (i := 1) rfl)) rfl, ⟨by decide +kernel, by decide +kernel⟩, by decide +kernel⟩
theorem ky_X7_in : CY yX7_in cX7_in 3 (some .boolean) 3 := ⟨Tz_mem (tz5 (List.mem_of_getElem? (i := 170) rfl)) rfl, Tz_mem (tz1 (List.mem_of_getElem? (i := 7) rfl)) rfl, ⟨by decide +kernel, by decide +kernel⟩, by decide +kernel⟩
theorem ky_X7_isOrder : CY yX7_isOrder cX7_isOrder 1 (some .boolean) 1 := ⟨Tz_mem (tz5 (List.mem_of_getElem? (i := 167) rfl)) rfl, Tz_mem (tz1 (List.mem_of_getElem? (i := 7) rfl)) rfl, ⟨by decide +kernel, by decide +kernel⟩, by decide +kernel⟩
theorem ky_X7_has : CY yX7_has cX7_has 2 (some .boolean) 2 := ⟨Tz_mem (tz5 (List.mem_of_getElem? (i := 205) rfl)) rfl, Tz_mem (tz1 (List.mem_of_getElem? (i := 7) rfl)) rfl, ⟨by decide +kernel, by decide +kernel⟩, by decide +kernel⟩
theorem ky_X7_lets : CY yX7_lets cX7_lets 3 (some .boolean) 2 := ⟨Tz_mem (tz5 (List.mem_of_getElem? (i := 174) rfl)) rfl, Tz_mem (tz1 (List.mem_of_getElem? (i := 7) rfl)) rfl, ⟨by decide +kernel, by decide +kernel⟩, by decide +kernel⟩
theorem ky_X7_empty : CY yX7_empty cX7_empty 5 none 2 := ⟨Tz_mem (tz5 (List.mem_of_getElem? (i := 178) rfl)) rfl, Tz_mem (tz1 (List.mem_of_getElem? (i := 7) rfl)) rfl, ⟨by decide +kernel, by decide +kernel⟩, by decide +kernel⟩
theorem ky_X7_pairsOf : CY yX7_pairsOf cX7_pairsOf 5 (some .int) 1 := ⟨Tz_mem (tz5 (List.mem_of_getElem? (i := 186) rfl)) rfl, Tz_mem (tz1 (List.mem_of_getElem? (i := 7) rfl)) rfl, ⟨by decide +kernel, by decide +kernel⟩, by decide +kernel⟩
theorem ky_X7_becomes : CY yX7_becomes cX7_becomes 5 none 2 := ⟨Tz_mem (tz5 (List.mem_of_getElem? (i := 209) rfl)) rfl, Tz_mem (tz1 (List.mem_of_getElem? (i := 7) rfl)) rfl, ⟨by decide +kernel, by decide +kernel⟩, by decide +kernel⟩
theorem ky_X7_isThing : CY yX7_isThing cX7_isThing 3 (some .boolean) 2 := ⟨Tz_mem (tz5 (List.mem_of_getElem? (i := 198) rfl)) rfl, Tz_mem (tz1 (List.mem_of_getElem? (i := 7) rfl)) rfl, ⟨by decide +kernel, by decide +kernel⟩, by decide +kernel⟩
theorem ky_X7_stay : CY yX7_stay cX7_stay 6 none 2 := ⟨Tz_mem (tz5 (List.mem_of_getElem? (i := 202) rfl)) rfl, Tz_mem (tz1 (List.mem_of_getElem? (i := 7) rfl)) rfl, ⟨by decide +kernel, by decide +kernel⟩, by decide +kernel⟩
theorem ky_X7_isSet : CY yX7_isSet cX7_isSet 3 (some .boolean) 2 := ⟨Tz_mem (tz5 (List.mem_of_getElem? (i := 217) rfl)) rfl, Tz_mem (tz1 (List.mem_of_getElem? (i := 7) rfl)) rfl, ⟨by decide +kernel, by decide +kernel⟩, by decide +kernel⟩
theorem ky_X7_isUpTo : CY yX7_isUpTo cX7_isUpTo 4 (some .boolean) 3 := ⟨Tz_mem (tz5 (List.mem_of_getElem? (i := 229) rfl)) rfl, Tz_mem (tz1 (List.mem_of_getElem? (i := 7) rfl)) rfl, ⟨by decide +kernel, by decide +kernel⟩, by decide +kernel⟩
theorem ky_X7_next : CY yX7_next cX7_next 6 (some .boolean) 3 := ⟨Tz_mem (tz5 (List.mem_of_getElem? (i := 237) rfl)) rfl, Tz_mem (tz1 (List.mem_of_getElem? (i := 7) rfl)) rfl, ⟨by decide +kernel, by decide +kernel⟩, by decide +kernel⟩
theorem ky_X7_manyIn : CY yX7_manyIn cX7_manyIn 3 (some .int) 1 := ⟨Tz_mem (tz6 (List.mem_of_getElem? (i := 16) rfl)) rfl, Tz_mem (tz1 (List.mem_of_getElem? (i := 7) rfl)) rfl, ⟨by decide +kernel, by decide +kernel⟩, by decide +kernel⟩
theorem ky_X7_lowerOf : CY yX7_lowerOf cX7_lowerOf 5 (some .int) 2 := ⟨Tz_mem (tz6 (List.mem_of_getElem? (i := 13) rfl)) rfl, Tz_mem (tz1 (List.mem_of_getElem? (i := 7) rfl)) rfl, ⟨by decide +kernel, by decide +kernel⟩, by decide +kernel⟩
theorem ky_X7_follow : CY yX7_follow cX7_follow 11 (some .int) 4 := ⟨Tz_mem (tz6 (List.mem_of_getElem? (i := 9) rfl)) rfl, Tz_mem (tz1 (List.mem_of_getElem? (i := 7) rfl)) rfl, ⟨by decide +kernel, by decide +kernel⟩, by decide +kernel⟩
theorem ky_X7_rowsOf : CY yX7_rowsOf cX7_rowsOf 2 (some .int) 1 := ⟨Tz_mem (tz6 (List.mem_of_getElem? (i := 5) rfl)) rfl, Tz_mem (tz1 (List.mem_of_getElem? (i := 7) rfl)) rfl, ⟨by decide +kernel, by decide +kernel⟩, by decide +kernel⟩
theorem ky_X7_lineUp : CY yX7_lineUp cX7_lineUp 11 (some .int) 2 := ⟨Tz_mem (tz6 (List.mem_of_getElem? (i := 20) rfl)) rfl, Tz_mem (tz1 (List.mem_of_getElem? (i := 7) rfl)) rfl, ⟨by decide +kernel, by decide +kernel⟩, by decide +kernel⟩
theorem ky_X7_canJoin : CY yX7_canJoin cX7_canJoin 4 (some .boolean) 3 := ⟨Tz_mem (tz6 (List.mem_of_getElem? (i := 36) rfl)) rfl, Tz_mem (tz1 (List.mem_of_getElem? (i := 7) rfl)) rfl, ⟨by decide +kernel, by decide +kernel⟩, by decide +kernel⟩
theorem ky_X7_joins : CY yX7_joins cX7_joins 9 none 3 := ⟨Tz_mem (tz6 (List.mem_of_getElem? (i := 40) rfl)) rfl, Tz_mem (tz1 (List.mem_of_getElem? (i := 7) rfl)) rfl, ⟨by decide +kernel, by decide +kernel⟩, by decide +kernel⟩
theorem ky_X7_upperOf : CY yX7_upperOf cX7_upperOf 5 (some .int) 2 := ⟨Tz_mem (tz6 (List.mem_of_getElem? (i := 80) rfl)) rfl, Tz_mem (tz1 (List.mem_of_getElem? (i := 7) rfl)) rfl, ⟨by decide +kernel, by decide +kernel⟩, by decide +kernel⟩
theorem ky_X7_isAll : CY yX7_isAll cX7_isAll 8 (some .boolean) 3 := ⟨Tz_mem (tz6 (List.mem_of_getElem? (i := 100) rfl)) rfl, Tz_mem (tz1 (List.mem_of_getElem? (i := 7) rfl)) rfl, ⟨by decide +kernel, by decide +kernel⟩, by decide +kernel⟩
theorem ky_X7_levelOf : CY yX7_levelOf cX7_levelOf 6 (some .int) 2 := ⟨Tz_mem (tz6 (List.mem_of_getElem? (i := 112) rfl)) rfl, Tz_mem (tz1 (List.mem_of_getElem? (i := 7) rfl)) rfl, ⟨by decide +kernel, by decide +kernel⟩, by decide +kernel⟩
theorem ky_X7_mostOf : CY yX7_mostOf cX7_mostOf 6 (some .int) 2 := ⟨Tz_mem (tz6 (List.mem_of_getElem? (i := 120) rfl)) rfl, Tz_mem (tz1 (List.mem_of_getElem? (i := 7) rfl)) rfl, ⟨by decide +kernel, by decide +kernel⟩, by decide +kernel⟩
theorem ky_X7_fewestOf : CY yX7_fewestOf cX7_fewestOf 6 (some .int) 2 := ⟨Tz_mem (tz6 (List.mem_of_getElem? (i := 132) rfl)) rfl, Tz_mem (tz1 (List.mem_of_getElem? (i := 7) rfl)) rfl, ⟨by decide +kernel, by decide +kernel⟩, by decide +kernel⟩
theorem ky_X7_closure : CY yX7_closure cX7_closure 5 (some .int) 2 := ⟨Tz_mem (tz6 (List.mem_of_getElem? (i := 156) rfl)) rfl, Tz_mem (tz1 (List.mem_of_getElem? (i := 7) rfl)) rfl, ⟨by decide +kernel, by decide +kernel⟩, by decide +kernel⟩
theorem ky_X7_isAhead : CY yX7_isAhead cX7_isAhead 4 (some .boolean) 2 := ⟨Tz_mem (tz6 (List.mem_of_getElem? (i := 175) rfl)) rfl, Tz_mem (tz1 (List.mem_of_getElem? (i := 7) rfl)) rfl, ⟨by decide +kernel, by decide +kernel⟩, by decide +kernel⟩
theorem ky_X7_isClosed : CY yX7_isClosed cX7_isClosed 3 (some .boolean) 2 := ⟨Tz_mem (tz6 (List.mem_of_getElem? (i := 152) rfl)) rfl, Tz_mem (tz1 (List.mem_of_getElem? (i := 7) rfl)) rfl, ⟨by decide +kernel, by decide +kernel⟩, by decide +kernel⟩
theorem ky_X7_manyOf : CY yX7_manyOf cX7_manyOf 5 (some .int) 2 := ⟨Tz_mem (tz6 (List.mem_of_getElem? (i := 148) rfl)) rfl, Tz_mem (tz1 (List.mem_of_getElem? (i := 7) rfl)) rfl, ⟨by decide +kernel, by decide +kernel⟩, by decide +kernel⟩
theorem ky_X7_placeIn : CY yX7_placeIn cX7_placeIn 5 (some .int) 2 := ⟨Tz_mem (tz6 (List.mem_of_getElem? (i := 172) rfl)) rfl, Tz_mem (tz1 (List.mem_of_getElem? (i := 7) rfl)) rfl, ⟨by decide +kernel, by decide +kernel⟩, by decide +kernel⟩
theorem ky_X7_placeOfRow : CY yX7_placeOfRow cX7_placeOfRow 11 (some .int) 2 := ⟨Tz_mem (tz6 (List.mem_of_getElem? (i := 211) rfl)) rfl, Tz_mem (tz1 (List.mem_of_getElem? (i := 7) rfl)) rfl, ⟨by decide +kernel, by decide +kernel⟩, by decide +kernel⟩
theorem ky_X7_with : CY yX7_with cX7_with 4 (some .int) 3 := ⟨Tz_mem (tz6 (List.mem_of_getElem? (i := 223) rfl)) rfl, Tz_mem (tz1 (List.mem_of_getElem? (i := 7) rfl)) rfl, ⟨by decide +kernel, by decide +kernel⟩, by decide +kernel⟩
theorem ky_X7_at : CY yX7_at cX7_at 4 (some .int) 3 := ⟨Tz_mem (tz6 (List.mem_of_getElem? (i := 231) rfl)) rfl, Tz_mem (tz1 (List.mem_of_getElem? (i := 7) rfl)) rfl, ⟨by decide +kernel, by decide +kernel⟩, by decide +kernel⟩
theorem ky_X7_numberOf : CY yX7_numberOf cX7_numberOf 6 (some .int) 3 := ⟨Tz_mem (tz7 (List.mem_of_getElem? (i := 15) rfl)) rfl, Tz_mem (tz1 (List.mem_of_getElem? (i := 7) rfl)) rfl, ⟨by decide +kernel, by decide +kernel⟩, by decide +kernel⟩
theorem ky_X7_sumOf : CY yX7_sumOf cX7_sumOf 5 (some .int) 2 := ⟨Tz_mem (tz7 (List.mem_of_getElem? (i := 7) rfl)) rfl, Tz_mem (tz1 (List.mem_of_getElem? (i := 7) rfl)) rfl, ⟨by decide +kernel, by decide +kernel⟩, by decide +kernel⟩
theorem ks_J6_bitCount_0f7a4 : Cond.static yJ6_bitCount_0f7a4 ∈ Tz := Tz_mem (tz1 (List.mem_of_getElem? (i := 198) rfl)) rfl
theorem ks_X6_has : Cond.static yX6_has ∈ Tz := Tz_mem (tz1 (List.mem_of_getElem? (i := 171) rfl)) rfl
theorem ks_X6_isWithin : Cond.static yX6_isWithin ∈ Tz := Tz_mem (tz1 (List.mem_of_getElem? (i := 174) rfl)) rfl
theorem ks_X0_findsFollower : Cond.static yX0_findsFollower ∈ Tz := Tz_mem (tz3 (List.mem_of_getElem? (i := 212) rfl)) rfl
theorem ks_X1_isAhead : Cond.static yX1_isAhead ∈ Tz := Tz_mem (tz4 (List.mem_of_getElem? (i := 39) rfl)) rfl
theorem ks_X3_squeezed : Cond.static yX3_squeezed ∈ Tz := Tz_mem (tz2 (List.mem_of_getElem? (i := 152) rfl)) rfl
theorem ks_X4_withoutLast : Cond.static yX4_withoutLast ∈ Tz := Tz_mem (tz4 (List.mem_of_getElem? (i := 124) rfl)) rfl
theorem ks_X5_isOrdered : Cond.static yX5_isOrdered ∈ Tz := Tz_mem (tz5 (List.mem_of_getElem? (i := 3) rfl)) rfl
theorem ks_X0_mostApart : Cond.static yX0_mostApart ∈ Tz := Tz_mem (tz1 (List.mem_of_getElem? (i := 190) rfl)) rfl
theorem ks_X0_layerCount : Cond.static yX0_layerCount ∈ Tz := Tz_mem (tz3 (List.mem_of_getElem? (i := 224) rfl)) rfl
theorem ks_X0_longestWithin : Cond.static yX0_longestWithin ∈ Tz := Tz_mem (tz1 (List.mem_of_getElem? (i := 212) rfl)) rfl
theorem ks_X1_count : Cond.static yX1_count ∈ Tz := Tz_mem (tz1 (List.mem_of_getElem? (i := 160) rfl)) rfl
theorem ks_X0_apartCount : Cond.static yX0_apartCount ∈ Tz := Tz_mem (tz3 (List.mem_of_getElem? (i := 236) rfl)) rfl
theorem ks_X5_closedSetFits : Cond.static yX5_closedSetFits ∈ Tz := Tz_mem (tz5 (List.mem_of_getElem? (i := 63) rfl)) rfl
theorem ks_X5_waysToChoose : Cond.static yX5_waysToChoose ∈ Tz := Tz_mem (tz5 (List.mem_of_getElem? (i := 110) rfl)) rfl
theorem ks_X5_longestOf : Cond.static yX5_longestOf ∈ Tz := Tz_mem (tz5 (List.mem_of_getElem? (i := 113) rfl)) rfl
theorem ks_X7_in : Cond.static yX7_in ∈ Tz := Tz_mem (tz5 (List.mem_of_getElem? (i := 169) rfl)) rfl
theorem ks_X7_isOrder : Cond.static yX7_isOrder ∈ Tz := Tz_mem (tz5 (List.mem_of_getElem? (i := 166) rfl)) rfl
theorem ks_X7_has : Cond.static yX7_has ∈ Tz := Tz_mem (tz5 (List.mem_of_getElem? (i := 204) rfl)) rfl
theorem ks_X7_manyIn : Cond.static yX7_manyIn ∈ Tz := Tz_mem (tz6 (List.mem_of_getElem? (i := 15) rfl)) rfl
theorem ks_X7_isAhead : Cond.static yX7_isAhead ∈ Tz := Tz_mem (tz6 (List.mem_of_getElem? (i := 174) rfl)) rfl
theorem kv_X3_setLimit : CYv yX3_setLimit := ⟨Tz_mem (tz1 (List.mem_of_getElem? (i := 163) rfl)) rfl, Tz_mem (tz1 (List.mem_of_getElem? (i := 164) rfl)) rfl⟩
theorem kv_X3_isInLine : CYv yX3_isInLine := ⟨Tz_mem (tz1 (List.mem_of_getElem? (i := 216) rfl)) rfl, Tz_mem (tz1 (List.mem_of_getElem? (i := 217) rfl)) rfl⟩
theorem kv_X3_isUnordered : CYv yX3_isUnordered := ⟨Tz_mem (tz1 (List.mem_of_getElem? (i := 194) rfl)) rfl, Tz_mem (tz1 (List.mem_of_getElem? (i := 195) rfl)) rfl⟩
theorem kv_X3_all : CYv yX3_all := ⟨Tz_mem (tz1 (List.mem_of_getElem? (i := 207) rfl)) rfl, Tz_mem (tz1 (List.mem_of_getElem? (i := 208) rfl)) rfl⟩
theorem kv_X3_leastOf : CYv yX3_leastOf := ⟨Tz_mem (tz3 (List.mem_of_getElem? (i := 142) rfl)) rfl, Tz_mem (tz3 (List.mem_of_getElem? (i := 143) rfl)) rfl⟩
theorem kv_X3_hasThing : CYv yX3_hasThing := ⟨Tz_mem (tz2 (List.mem_of_getElem? (i := 143) rfl)) rfl, Tz_mem (tz2 (List.mem_of_getElem? (i := 144) rfl)) rfl⟩
theorem kv_X3_isBelow : CYv yX3_isBelow := ⟨Tz_mem (tz2 (List.mem_of_getElem? (i := 190) rfl)) rfl, Tz_mem (tz2 (List.mem_of_getElem? (i := 191) rfl)) rfl⟩
theorem kv_X3_isClosedBelow : CYv yX3_isClosedBelow := ⟨Tz_mem (tz1 (List.mem_of_getElem? (i := 167) rfl)) rfl, Tz_mem (tz1 (List.mem_of_getElem? (i := 168) rfl)) rfl⟩
theorem kv_X2_sumBelow : CYv yX2_sumBelow := ⟨Tz_mem (tz4 (List.mem_of_getElem? (i := 215) rfl)) rfl, Tz_mem (tz0 (List.mem_of_getElem? (i := 13) rfl)) rfl⟩
theorem kv_X2_fillFrom : CYv yX2_fillFrom := ⟨Tz_mem (tz4 (List.mem_of_getElem? (i := 210) rfl)) rfl, Tz_mem (tz0 (List.mem_of_getElem? (i := 12) rfl)) rfl⟩
theorem kv_X3_sumUpTo : CYv yX3_sumUpTo := ⟨Tz_mem (tz4 (List.mem_of_getElem? (i := 194) rfl)) rfl, Tz_mem (tz4 (List.mem_of_getElem? (i := 195) rfl)) rfl⟩
theorem kv_X3_pairCount : CYv yX3_pairCount := ⟨Tz_mem (tz2 (List.mem_of_getElem? (i := 96) rfl)) rfl, Tz_mem (tz2 (List.mem_of_getElem? (i := 97) rfl)) rfl⟩
theorem kv_X3_clearTo : CYv yX3_clearTo := ⟨Tz_mem (tz2 (List.mem_of_getElem? (i := 81) rfl)) rfl, Tz_mem (tz2 (List.mem_of_getElem? (i := 82) rfl)) rfl⟩
theorem kv_X3_aboveOf : CYv yX3_aboveOf := ⟨Tz_mem (tz2 (List.mem_of_getElem? (i := 206) rfl)) rfl, Tz_mem (tz2 (List.mem_of_getElem? (i := 207) rfl)) rfl⟩
theorem kv_X3_become : CYv yX3_become := ⟨Tz_mem (tz3 (List.mem_of_getElem? (i := 21) rfl)) rfl, Tz_mem (tz3 (List.mem_of_getElem? (i := 22) rfl)) rfl⟩
theorem kv_X3_allBelow : CYv yX3_allBelow := ⟨Tz_mem (tz3 (List.mem_of_getElem? (i := 100) rfl)) rfl, Tz_mem (tz3 (List.mem_of_getElem? (i := 101) rfl)) rfl⟩
theorem kv_X3_greatestOf : CYv yX3_greatestOf := ⟨Tz_mem (tz3 (List.mem_of_getElem? (i := 96) rfl)) rfl, Tz_mem (tz3 (List.mem_of_getElem? (i := 97) rfl)) rfl⟩
theorem kv_X3_canCome : CYv yX3_canCome := ⟨Tz_mem (tz1 (List.mem_of_getElem? (i := 186) rfl)) rfl, Tz_mem (tz1 (List.mem_of_getElem? (i := 187) rfl)) rfl⟩
theorem kv_X4_passOn : CYv yX4_passOn := ⟨Tz_mem (tz1 (List.mem_of_getElem? (i := 183) rfl)) rfl, Tz_mem (tz0 (List.mem_of_getElem? (i := 1) rfl)) rfl⟩
theorem kv_X4_count : CYv yX4_count := ⟨Tz_mem (tz1 (List.mem_of_getElem? (i := 177) rfl)) rfl, Tz_mem (tz1 (List.mem_of_getElem? (i := 178) rfl)) rfl⟩
theorem kv_X4_waysByLesser : CYv yX4_waysByLesser := ⟨Tz_mem (tz2 (List.mem_of_getElem? (i := 232) rfl)) rfl, Tz_mem (tz0 (List.mem_of_getElem? (i := 8) rfl)) rfl⟩
theorem kv_X4_thingFor : CYv yX4_thingFor := ⟨Tz_mem (tz3 (List.mem_of_getElem? (i := 1) rfl)) rfl, Tz_mem (tz0 (List.mem_of_getElem? (i := 9) rfl)) rfl⟩
theorem kv_X4_fill : CYv yX4_fill := ⟨Tz_mem (tz2 (List.mem_of_getElem? (i := 225) rfl)) rfl, Tz_mem (tz2 (List.mem_of_getElem? (i := 226) rfl)) rfl⟩
theorem kv_X4_waysThrough : CYv yX4_waysThrough := ⟨Tz_mem (tz4 (List.mem_of_getElem? (i := 150) rfl)) rfl, Tz_mem (tz0 (List.mem_of_getElem? (i := 11) rfl)) rfl⟩
theorem kv_X3_link : CYv yX3_link := ⟨Tz_mem (tz2 (List.mem_of_getElem? (i := 186) rfl)) rfl, Tz_mem (tz2 (List.mem_of_getElem? (i := 187) rfl)) rfl⟩
theorem kv_X3_hasPairsOf : CYv yX3_hasPairsOf := ⟨Tz_mem (tz3 (List.mem_of_getElem? (i := 160) rfl)) rfl, Tz_mem (tz3 (List.mem_of_getElem? (i := 161) rfl)) rfl⟩
theorem kv_X5_linksLeastFor : CYv yX5_linksLeastFor := ⟨Tz_mem (tz5 (List.mem_of_getElem? (i := 14) rfl)) rfl, Tz_mem (tz0 (List.mem_of_getElem? (i := 15) rfl)) rfl⟩
theorem kv_X3_isNextBelow : CYv yX3_isNextBelow := ⟨Tz_mem (tz2 (List.mem_of_getElem? (i := 202) rfl)) rfl, Tz_mem (tz2 (List.mem_of_getElem? (i := 203) rfl)) rfl⟩
theorem kv_X3_cut : CYv yX3_cut := ⟨Tz_mem (tz2 (List.mem_of_getElem? (i := 210) rfl)) rfl, Tz_mem (tz2 (List.mem_of_getElem? (i := 211) rfl)) rfl⟩
theorem kv_X3_retain : CYv yX3_retain := ⟨Tz_mem (tz2 (List.mem_of_getElem? (i := 148) rfl)) rfl, Tz_mem (tz2 (List.mem_of_getElem? (i := 149) rfl)) rfl⟩
theorem kv_X4_countAhead : CYv yX4_countAhead := ⟨Tz_mem (tz4 (List.mem_of_getElem? (i := 144) rfl)) rfl, Tz_mem (tz4 (List.mem_of_getElem? (i := 145) rfl)) rfl⟩
theorem kv_X5_rowsTellPair : CYv yX5_rowsTellPair := ⟨Tz_mem (tz5 (List.mem_of_getElem? (i := 41) rfl)) rfl, Tz_mem (tz0 (List.mem_of_getElem? (i := 19) rfl)) rfl⟩
theorem kv_X0_chainCover : CYv yX0_chainCover := ⟨Tz_mem (tz3 (List.mem_of_getElem? (i := 208) rfl)) rfl, Tz_mem (tz3 (List.mem_of_getElem? (i := 209) rfl)) rfl⟩
theorem kv_X3_filledUp : CYv yX3_filledUp := ⟨Tz_mem (tz4 (List.mem_of_getElem? (i := 63) rfl)) rfl, Tz_mem (tz4 (List.mem_of_getElem? (i := 64) rfl)) rfl⟩
theorem kv_X4_isReached : CYv yX4_isReached := ⟨Tz_mem (tz5 (List.mem_of_getElem? (i := 59) rfl)) rfl, Tz_mem (tz5 (List.mem_of_getElem? (i := 60) rfl)) rfl⟩
theorem kv_X5_staysClosedBy : CYv yX5_staysClosedBy := ⟨Tz_mem (tz5 (List.mem_of_getElem? (i := 69) rfl)) rfl, Tz_mem (tz0 (List.mem_of_getElem? (i := 22) rfl)) rfl⟩
theorem kv_X2_undoSums : CYv yX2_undoSums := ⟨Tz_mem (tz4 (List.mem_of_getElem? (i := 226) rfl)) rfl, Tz_mem (tz4 (List.mem_of_getElem? (i := 227) rfl)) rfl⟩
theorem kv_X2_vanishFrom : CYv yX2_vanishFrom := ⟨Tz_mem (tz5 (List.mem_of_getElem? (i := 80) rfl)) rfl, Tz_mem (tz5 (List.mem_of_getElem? (i := 81) rfl)) rfl⟩
theorem kv_X3_becomeTurned : CYv yX3_becomeTurned := ⟨Tz_mem (tz3 (List.mem_of_getElem? (i := 16) rfl)) rfl, Tz_mem (tz3 (List.mem_of_getElem? (i := 17) rfl)) rfl⟩
theorem kv_X5_sizesTurn : CYv yX5_sizesTurn := ⟨Tz_mem (tz5 (List.mem_of_getElem? (i := 90) rfl)) rfl, Tz_mem (tz0 (List.mem_of_getElem? (i := 25) rfl)) rfl⟩
theorem kv_X5_linksLeast : CYv yX5_linksLeast := ⟨Tz_mem (tz5 (List.mem_of_getElem? (i := 10) rfl)) rfl, Tz_mem (tz0 (List.mem_of_getElem? (i := 14) rfl)) rfl⟩
theorem kv_X5_looseComesBack : CYv yX5_looseComesBack := ⟨Tz_mem (tz5 (List.mem_of_getElem? (i := 21) rfl)) rfl, Tz_mem (tz0 (List.mem_of_getElem? (i := 16) rfl)) rfl⟩
theorem kv_X5_growsByGreatest : CYv yX5_growsByGreatest := ⟨Tz_mem (tz5 (List.mem_of_getElem? (i := 27) rfl)) rfl, Tz_mem (tz0 (List.mem_of_getElem? (i := 17) rfl)) rfl⟩
theorem kv_X5_rowsTellPairs : CYv yX5_rowsTellPairs := ⟨Tz_mem (tz5 (List.mem_of_getElem? (i := 36) rfl)) rfl, Tz_mem (tz0 (List.mem_of_getElem? (i := 18) rfl)) rfl⟩
theorem kv_X5_coversFit : CYv yX5_coversFit := ⟨Tz_mem (tz5 (List.mem_of_getElem? (i := 46) rfl)) rfl, Tz_mem (tz0 (List.mem_of_getElem? (i := 20) rfl)) rfl⟩
theorem kv_X5_closedSetsFit : CYv yX5_closedSetsFit := ⟨Tz_mem (tz5 (List.mem_of_getElem? (i := 54) rfl)) rfl, Tz_mem (tz0 (List.mem_of_getElem? (i := 21) rfl)) rfl⟩
theorem kv_X5_sumsAreUndone : CYv yX5_sumsAreUndone := ⟨Tz_mem (tz5 (List.mem_of_getElem? (i := 76) rfl)) rfl, Tz_mem (tz0 (List.mem_of_getElem? (i := 23) rfl)) rfl⟩
theorem kv_X5_turnsRound : CYv yX5_turnsRound := ⟨Tz_mem (tz5 (List.mem_of_getElem? (i := 85) rfl)) rfl, Tz_mem (tz0 (List.mem_of_getElem? (i := 24) rfl)) rfl⟩
theorem kv_X3_becomeJoined : CYv yX3_becomeJoined := ⟨Tz_mem (tz3 (List.mem_of_getElem? (i := 44) rfl)) rfl, Tz_mem (tz3 (List.mem_of_getElem? (i := 45) rfl)) rfl⟩
theorem kv_X5_besideFits : CYv yX5_besideFits := ⟨Tz_mem (tz5 (List.mem_of_getElem? (i := 106) rfl)) rfl, Tz_mem (tz0 (List.mem_of_getElem? (i := 26) rfl)) rfl⟩
theorem kv_X5_aboveFits : CYv yX5_aboveFits := ⟨Tz_mem (tz5 (List.mem_of_getElem? (i := 118) rfl)) rfl, Tz_mem (tz0 (List.mem_of_getElem? (i := 27) rfl)) rfl⟩
theorem kv_X6_mixedIn : CYv yX6_mixedIn := ⟨Tz_mem (tz1 (List.mem_of_getElem? (i := 156) rfl)) rfl, Tz_mem (tz0 (List.mem_of_getElem? (i := 0) rfl)) rfl⟩
theorem kv_X7_lets : CYv yX7_lets := ⟨Tz_mem (tz5 (List.mem_of_getElem? (i := 173) rfl)) rfl, Tz_mem (tz0 (List.mem_of_getElem? (i := 28) rfl)) rfl⟩
theorem kv_X7_empty : CYv yX7_empty := ⟨Tz_mem (tz5 (List.mem_of_getElem? (i := 177) rfl)) rfl, Tz_mem (tz0 (List.mem_of_getElem? (i := 29) rfl)) rfl⟩
theorem kv_X7_pairsOf : CYv yX7_pairsOf := ⟨Tz_mem (tz5 (List.mem_of_getElem? (i := 185) rfl)) rfl, Tz_mem (tz0 (List.mem_of_getElem? (i := 30) rfl)) rfl⟩
theorem kv_X7_becomes : CYv yX7_becomes := ⟨Tz_mem (tz5 (List.mem_of_getElem? (i := 208) rfl)) rfl, Tz_mem (tz0 (List.mem_of_getElem? (i := 33) rfl)) rfl⟩
theorem kv_X7_isThing : CYv yX7_isThing := ⟨Tz_mem (tz5 (List.mem_of_getElem? (i := 197) rfl)) rfl, Tz_mem (tz0 (List.mem_of_getElem? (i := 31) rfl)) rfl⟩
theorem kv_X7_stay : CYv yX7_stay := ⟨Tz_mem (tz5 (List.mem_of_getElem? (i := 201) rfl)) rfl, Tz_mem (tz0 (List.mem_of_getElem? (i := 32) rfl)) rfl⟩
theorem kv_X7_isSet : CYv yX7_isSet := ⟨Tz_mem (tz5 (List.mem_of_getElem? (i := 216) rfl)) rfl, Tz_mem (tz0 (List.mem_of_getElem? (i := 34) rfl)) rfl⟩
theorem kv_X7_isUpTo : CYv yX7_isUpTo := ⟨Tz_mem (tz5 (List.mem_of_getElem? (i := 228) rfl)) rfl, Tz_mem (tz0 (List.mem_of_getElem? (i := 35) rfl)) rfl⟩
theorem kv_X7_next : CYv yX7_next := ⟨Tz_mem (tz5 (List.mem_of_getElem? (i := 236) rfl)) rfl, Tz_mem (tz0 (List.mem_of_getElem? (i := 36) rfl)) rfl⟩
theorem kv_X7_lowerOf : CYv yX7_lowerOf := ⟨Tz_mem (tz6 (List.mem_of_getElem? (i := 12) rfl)) rfl, Tz_mem (tz0 (List.mem_of_getElem? (i := 39) rfl)) rfl⟩
theorem kv_X7_follow : CYv yX7_follow := ⟨Tz_mem (tz6 (List.mem_of_getElem? (i := 8) rfl)) rfl, Tz_mem (tz0 (List.mem_of_getElem? (i := 38) rfl)) rfl⟩
theorem kv_X7_rowsOf : CYv yX7_rowsOf := ⟨Tz_mem (tz6 (List.mem_of_getElem? (i := 4) rfl)) rfl, Tz_mem (tz0 (List.mem_of_getElem? (i := 37) rfl)) rfl⟩
theorem kv_X7_lineUp : CYv yX7_lineUp := ⟨Tz_mem (tz6 (List.mem_of_getElem? (i := 19) rfl)) rfl, Tz_mem (tz0 (List.mem_of_getElem? (i := 40) rfl)) rfl⟩
theorem kv_X7_canJoin : CYv yX7_canJoin := ⟨Tz_mem (tz6 (List.mem_of_getElem? (i := 35) rfl)) rfl, Tz_mem (tz0 (List.mem_of_getElem? (i := 41) rfl)) rfl⟩
theorem kv_X7_joins : CYv yX7_joins := ⟨Tz_mem (tz6 (List.mem_of_getElem? (i := 39) rfl)) rfl, Tz_mem (tz0 (List.mem_of_getElem? (i := 42) rfl)) rfl⟩
theorem kv_X7_upperOf : CYv yX7_upperOf := ⟨Tz_mem (tz6 (List.mem_of_getElem? (i := 79) rfl)) rfl, Tz_mem (tz0 (List.mem_of_getElem? (i := 43) rfl)) rfl⟩
theorem kv_X7_isAll : CYv yX7_isAll := ⟨Tz_mem (tz6 (List.mem_of_getElem? (i := 99) rfl)) rfl, Tz_mem (tz0 (List.mem_of_getElem? (i := 44) rfl)) rfl⟩
theorem kv_X7_levelOf : CYv yX7_levelOf := ⟨Tz_mem (tz6 (List.mem_of_getElem? (i := 111) rfl)) rfl, Tz_mem (tz0 (List.mem_of_getElem? (i := 45) rfl)) rfl⟩
theorem kv_X7_mostOf : CYv yX7_mostOf := ⟨Tz_mem (tz6 (List.mem_of_getElem? (i := 119) rfl)) rfl, Tz_mem (tz0 (List.mem_of_getElem? (i := 46) rfl)) rfl⟩
theorem kv_X7_fewestOf : CYv yX7_fewestOf := ⟨Tz_mem (tz6 (List.mem_of_getElem? (i := 131) rfl)) rfl, Tz_mem (tz0 (List.mem_of_getElem? (i := 47) rfl)) rfl⟩
theorem kv_X7_closure : CYv yX7_closure := ⟨Tz_mem (tz6 (List.mem_of_getElem? (i := 155) rfl)) rfl, Tz_mem (tz0 (List.mem_of_getElem? (i := 50) rfl)) rfl⟩
theorem kv_X7_isClosed : CYv yX7_isClosed := ⟨Tz_mem (tz6 (List.mem_of_getElem? (i := 151) rfl)) rfl, Tz_mem (tz0 (List.mem_of_getElem? (i := 49) rfl)) rfl⟩
theorem kv_X7_manyOf : CYv yX7_manyOf := ⟨Tz_mem (tz6 (List.mem_of_getElem? (i := 147) rfl)) rfl, Tz_mem (tz0 (List.mem_of_getElem? (i := 48) rfl)) rfl⟩
theorem kv_X7_placeIn : CYv yX7_placeIn := ⟨Tz_mem (tz6 (List.mem_of_getElem? (i := 171) rfl)) rfl, Tz_mem (tz0 (List.mem_of_getElem? (i := 51) rfl)) rfl⟩
theorem kv_X7_placeOfRow : CYv yX7_placeOfRow := ⟨Tz_mem (tz6 (List.mem_of_getElem? (i := 210) rfl)) rfl, Tz_mem (tz0 (List.mem_of_getElem? (i := 52) rfl)) rfl⟩
theorem kv_X7_with : CYv yX7_with := ⟨Tz_mem (tz6 (List.mem_of_getElem? (i := 222) rfl)) rfl, Tz_mem (tz0 (List.mem_of_getElem? (i := 53) rfl)) rfl⟩
theorem kv_X7_at : CYv yX7_at := ⟨Tz_mem (tz6 (List.mem_of_getElem? (i := 230) rfl)) rfl, Tz_mem (tz0 (List.mem_of_getElem? (i := 54) rfl)) rfl⟩
theorem kv_X7_numberOf : CYv yX7_numberOf := ⟨Tz_mem (tz7 (List.mem_of_getElem? (i := 14) rfl)) rfl, Tz_mem (tz0 (List.mem_of_getElem? (i := 56) rfl)) rfl⟩
theorem kv_X7_sumOf : CYv yX7_sumOf := ⟨Tz_mem (tz7 (List.mem_of_getElem? (i := 6) rfl)) rfl, Tz_mem (tz0 (List.mem_of_getElem? (i := 55) rfl)) rfl⟩
theorem kk_J6_265 : Cond.constant RJ6 265 1431655765 ∈ Tz := Tz_mem (tz1 (List.mem_of_getElem? (i := 200) rfl)) rfl
theorem kk_J6_266 : Cond.constant RJ6 266 858993459 ∈ Tz := Tz_mem (tz1 (List.mem_of_getElem? (i := 201) rfl)) rfl
theorem kk_J6_267 : Cond.constant RJ6 267 252645135 ∈ Tz := Tz_mem (tz1 (List.mem_of_getElem? (i := 202) rfl)) rfl
theorem kk_X6_277 : Cond.constantLong RX6 277 31 ∈ Tz := Tz_mem (tz1 (List.mem_of_getElem? (i := 158) rfl)) rfl
theorem kk_X6_271 : Cond.constantLong RX6 271 17 ∈ Tz := Tz_mem (tz1 (List.mem_of_getElem? (i := 153) rfl)) rfl
theorem kk_X7_153 : Cond.constantLong RX7 153 17 ∈ Tz := Tz_mem (tz7 (List.mem_of_getElem? (i := 32) rfl)) rfl
theorem kk_X7_155 : Cond.constantLong RX7 155 31 ∈ Tz := Tz_mem (tz7 (List.mem_of_getElem? (i := 33) rfl)) rfl
