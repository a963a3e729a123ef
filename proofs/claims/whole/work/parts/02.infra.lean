def RX0 : String := "Belowhouse$Chains"
def TX0 : u_T := fun k => match k with
  | 0 => ("Belowhouse$Chains", "ahead", "[I", true)
  | _ => ("Belowhouse$Chains", "searched", "[I", true)
def tyX0 : Nat → FieldType := fun k => match k with
  | 0 => .array .int
  | _ => .array .int
theorem nmX0 : ∀ a, a < 2 → ∀ b, b < 2 → a ≠ b → (TX0 a).2.1 ≠ (TX0 b).2.1 := by decide +kernel
theorem tyX0_ok : ∀ k, k < 2 → parseFieldDescriptor (TX0 k).2.2.1 = some (tyX0 k) := by decide +kernel
abbrev cX0_init : ByteArray := prog_2_method_1_code
def yX0_init : MethodName := ⟨RX0, "<init>", "()V"⟩
abbrev cX0_longestWithin : ByteArray := prog_2_method_2_code
def yX0_longestWithin : MethodName := ⟨RX0, "longestWithin", "(LBelowhouse$Order;I)I"⟩
abbrev cX0_mostApart : ByteArray := prog_2_method_3_code
def yX0_mostApart : MethodName := ⟨RX0, "mostApart", "(LBelowhouse$Order;)I"⟩
abbrev cX0_apartCount : ByteArray := prog_2_method_4_code
def yX0_apartCount : MethodName := ⟨RX0, "apartCount", "(LBelowhouse$Order;)I"⟩
abbrev cX0_layerCount : ByteArray := prog_2_method_5_code
def yX0_layerCount : MethodName := ⟨RX0, "layerCount", "(LBelowhouse$Order;)I"⟩
abbrev cX0_chainCover : ByteArray := prog_2_method_6_code
def yX0_chainCover : MethodName := ⟨RX0, "chainCover", "(LBelowhouse$Order;)I"⟩
abbrev cX0_findsFollower : ByteArray := prog_2_method_7_code
def yX0_findsFollower : MethodName := ⟨RX0, "findsFollower", "(LBelowhouse$Order;[I[IIII)Z"⟩
def RX1 : String := "Belowhouse$ClosedSets"
def TX1 : u_T := fun k => match k with
  | _ => ("", "", "", false)
def tyX1 : Nat → FieldType := fun k => match k with
  | _ => .int
theorem nmX1 : ∀ a, a < 0 → ∀ b, b < 0 → a ≠ b → (TX1 a).2.1 ≠ (TX1 b).2.1 := by decide +kernel
theorem tyX1_ok : ∀ k, k < 0 → parseFieldDescriptor (TX1 k).2.2.1 = some (tyX1 k) := by decide +kernel
abbrev cX1_isAhead : ByteArray := prog_3_method_2_code
def yX1_isAhead : MethodName := ⟨RX1, "isAhead", "(II)Z"⟩
abbrev cX1_count : ByteArray := prog_3_method_3_code
def yX1_count : MethodName := ⟨RX1, "count", "(LBelowhouse$Order;)I"⟩
abbrev cX1_countOfSize : ByteArray := prog_3_method_4_code
def yX1_countOfSize : MethodName := ⟨RX1, "countOfSize", "(LBelowhouse$Order;I)I"⟩
abbrev cX1_countAhead : ByteArray := prog_3_method_5_code
def yX1_countAhead : MethodName := ⟨RX1, "countAhead", "(LBelowhouse$Order;I)I"⟩
abbrev cX1_countShared : ByteArray := prog_3_method_6_code
def yX1_countShared : MethodName := ⟨RX1, "countShared", "(LBelowhouse$Order;LBelowhouse$Order;)I"⟩
abbrev cX1_findAt : ByteArray := prog_3_method_7_code
def yX1_findAt : MethodName := ⟨RX1, "findAt", "(LBelowhouse$Order;I)I"⟩
abbrev cX1_lastAhead : ByteArray := prog_3_method_8_code
def yX1_lastAhead : MethodName := ⟨RX1, "lastAhead", "(LBelowhouse$Order;I)I"⟩
abbrev cX1_firstBehind : ByteArray := prog_3_method_9_code
def yX1_firstBehind : MethodName := ⟨RX1, "firstBehind", "(LBelowhouse$Order;I)I"⟩
def RX2 : String := "Belowhouse$Numbers"
def TX2 : u_T := fun k => match k with
  | _ => ("Belowhouse$Numbers", "ofHigh", "[I", true)
def tyX2 : Nat → FieldType := fun k => match k with
  | _ => .array .int
theorem nmX2 : ∀ a, a < 1 → ∀ b, b < 1 → a ≠ b → (TX2 a).2.1 ≠ (TX2 b).2.1 := by decide +kernel
theorem tyX2_ok : ∀ k, k < 1 → parseFieldDescriptor (TX2 k).2.2.1 = some (tyX2 k) := by decide +kernel
abbrev cX2_init : ByteArray := prog_4_method_1_code
def yX2_init : MethodName := ⟨RX2, "<init>", "()V"⟩
abbrev cX2_between : ByteArray := prog_4_method_2_code
def yX2_between : MethodName := ⟨RX2, "between", "(LBelowhouse$Order;II)I"⟩
abbrev cX2_undoSums : ByteArray := prog_4_method_3_code
def yX2_undoSums : MethodName := ⟨RX2, "undoSums", "(LBelowhouse$Order;I)I"⟩
abbrev cX2_fillFrom : ByteArray := prog_4_method_4_code
def yX2_fillFrom : MethodName := ⟨RX2, "fillFrom", "(LBelowhouse$Order;I)V"⟩
abbrev cX2_sumBelow : ByteArray := prog_4_method_5_code
def yX2_sumBelow : MethodName := ⟨RX2, "sumBelow", "(LBelowhouse$Order;I)I"⟩
abbrev cX2_vanishFrom : ByteArray := prog_4_method_6_code
def yX2_vanishFrom : MethodName := ⟨RX2, "vanishFrom", "(LBelowhouse$Order;I)Z"⟩
def RX3 : String := "Belowhouse$Order"
def TX3 : u_T := fun k => match k with
  | 0 => ("Belowhouse$Order", "count", "I", false)
  | 1 => ("Belowhouse$Order", "below", "[I", true)
  | _ => ("Belowhouse$Order", "values", "[I", true)
def tyX3 : Nat → FieldType := fun k => match k with
  | 0 => .int
  | 1 => .array .int
  | _ => .array .int
theorem nmX3 : ∀ a, a < 3 → ∀ b, b < 3 → a ≠ b → (TX3 a).2.1 ≠ (TX3 b).2.1 := by decide +kernel
theorem tyX3_ok : ∀ k, k < 3 → parseFieldDescriptor (TX3 k).2.2.1 = some (tyX3 k) := by decide +kernel
abbrev cX3_init : ByteArray := prog_5_method_1_code
def yX3_init : MethodName := ⟨RX3, "<init>", "()V"⟩
abbrev cX3_all : ByteArray := prog_5_method_2_code
def yX3_all : MethodName := ⟨RX3, "all", "()I"⟩
abbrev cX3_setLimit : ByteArray := prog_5_method_3_code
def yX3_setLimit : MethodName := ⟨RX3, "setLimit", "()I"⟩
abbrev cX3_hasThing : ByteArray := prog_5_method_4_code
def yX3_hasThing : MethodName := ⟨RX3, "hasThing", "(I)Z"⟩
abbrev cX3_clearTo : ByteArray := prog_5_method_5_code
def yX3_clearTo : MethodName := ⟨RX3, "clearTo", "(I)V"⟩
abbrev cX3_lineUp : ByteArray := prog_5_method_6_code
def yX3_lineUp : MethodName := ⟨RX3, "lineUp", "()V"⟩
abbrev cX3_standAs : ByteArray := prog_5_method_7_code
def yX3_standAs : MethodName := ⟨RX3, "standAs", "([I)V"⟩
abbrev cX3_append : ByteArray := prog_5_method_8_code
def yX3_append : MethodName := ⟨RX3, "append", "(I)I"⟩
abbrev cX3_retain : ByteArray := prog_5_method_9_code
def yX3_retain : MethodName := ⟨RX3, "retain", "(I)V"⟩
abbrev cX3_squeezed : ByteArray := prog_5_method_10_code
def yX3_squeezed : MethodName := ⟨RX3, "squeezed", "(II)I"⟩
abbrev cX3_link : ByteArray := prog_5_method_11_code
def yX3_link : MethodName := ⟨RX3, "link", "(II)I"⟩
abbrev cX3_cut : ByteArray := prog_5_method_12_code
def yX3_cut : MethodName := ⟨RX3, "cut", "(II)V"⟩
abbrev cX3_become : ByteArray := prog_5_method_13_code
def yX3_become : MethodName := ⟨RX3, "become", "(LBelowhouse$Order;)V"⟩
abbrev cX3_becomeTurned : ByteArray := prog_5_method_14_code
def yX3_becomeTurned : MethodName := ⟨RX3, "becomeTurned", "(LBelowhouse$Order;)V"⟩
abbrev cX3_becomeJoined : ByteArray := prog_5_method_15_code
def yX3_becomeJoined : MethodName := ⟨RX3, "becomeJoined", "(LBelowhouse$Order;LBelowhouse$Order;Z)V"⟩
abbrev cX3_becomeCommon : ByteArray := prog_5_method_16_code
def yX3_becomeCommon : MethodName := ⟨RX3, "becomeCommon", "(LBelowhouse$Order;LBelowhouse$Order;)V"⟩
abbrev cX3_isBelow : ByteArray := prog_5_method_17_code
def yX3_isBelow : MethodName := ⟨RX3, "isBelow", "(II)Z"⟩
abbrev cX3_isNextBelow : ByteArray := prog_5_method_18_code
def yX3_isNextBelow : MethodName := ⟨RX3, "isNextBelow", "(II)Z"⟩
abbrev cX3_aboveOf : ByteArray := prog_5_method_19_code
def yX3_aboveOf : MethodName := ⟨RX3, "aboveOf", "(I)I"⟩
abbrev cX3_pairCount : ByteArray := prog_5_method_20_code
def yX3_pairCount : MethodName := ⟨RX3, "pairCount", "()I"⟩
abbrev cX3_nextCount : ByteArray := prog_5_method_21_code
def yX3_nextCount : MethodName := ⟨RX3, "nextCount", "()I"⟩
abbrev cX3_hasPairsOf : ByteArray := prog_5_method_22_code
def yX3_hasPairsOf : MethodName := ⟨RX3, "hasPairsOf", "(LBelowhouse$Order;)Z"⟩
abbrev cX3_isInLine : ByteArray := prog_5_method_23_code
def yX3_isInLine : MethodName := ⟨RX3, "isInLine", "(I)Z"⟩
abbrev cX3_isUnordered : ByteArray := prog_5_method_24_code
def yX3_isUnordered : MethodName := ⟨RX3, "isUnordered", "(I)Z"⟩
abbrev cX3_allBelow : ByteArray := prog_5_method_25_code
def yX3_allBelow : MethodName := ⟨RX3, "allBelow", "(I)I"⟩
abbrev cX3_greatestOf : ByteArray := prog_5_method_26_code
def yX3_greatestOf : MethodName := ⟨RX3, "greatestOf", "(I)I"⟩
abbrev cX3_leastOf : ByteArray := prog_5_method_27_code
def yX3_leastOf : MethodName := ⟨RX3, "leastOf", "(I)I"⟩
abbrev cX3_isClosedBelow : ByteArray := prog_5_method_28_code
def yX3_isClosedBelow : MethodName := ⟨RX3, "isClosedBelow", "(I)Z"⟩
abbrev cX3_filledUp : ByteArray := prog_5_method_29_code
def yX3_filledUp : MethodName := ⟨RX3, "filledUp", "(I)I"⟩
abbrev cX3_pared : ByteArray := prog_5_method_30_code
def yX3_pared : MethodName := ⟨RX3, "pared", "(I)I"⟩
abbrev cX3_canCome : ByteArray := prog_5_method_31_code
def yX3_canCome : MethodName := ⟨RX3, "canCome", "(II)Z"⟩
abbrev cX3_sumUpTo : ByteArray := prog_5_method_32_code
def yX3_sumUpTo : MethodName := ⟨RX3, "sumUpTo", "(I)I"⟩
def RX4 : String := "Belowhouse$RowTable"
def TX4 : u_T := fun k => match k with
  | 0 => ("Belowhouse$RowTable", "waysTo", "[I", true)
  | 1 => ("Belowhouse$RowTable", "waysOn", "[I", true)
  | _ => ("Belowhouse$RowTable", "line", "[I", true)
def tyX4 : Nat → FieldType := fun k => match k with
  | 0 => .array .int
  | 1 => .array .int
  | _ => .array .int
theorem nmX4 : ∀ a, a < 3 → ∀ b, b < 3 → a ≠ b → (TX4 a).2.1 ≠ (TX4 b).2.1 := by decide +kernel
theorem tyX4_ok : ∀ k, k < 3 → parseFieldDescriptor (TX4 k).2.2.1 = some (tyX4 k) := by decide +kernel
abbrev cX4_init : ByteArray := prog_6_method_1_code
def yX4_init : MethodName := ⟨RX4, "<init>", "()V"⟩
abbrev cX4_count : ByteArray := prog_6_method_2_code
def yX4_count : MethodName := ⟨RX4, "count", "(LBelowhouse$Order;)I"⟩
abbrev cX4_passOn : ByteArray := prog_6_method_3_code
def yX4_passOn : MethodName := ⟨RX4, "passOn", "(LBelowhouse$Order;I)V"⟩
abbrev cX4_fill : ByteArray := prog_6_method_4_code
def yX4_fill : MethodName := ⟨RX4, "fill", "(LBelowhouse$Order;)I"⟩
abbrev cX4_isReached : ByteArray := prog_6_method_5_code
def yX4_isReached : MethodName := ⟨RX4, "isReached", "(I)Z"⟩
abbrev cX4_waysByLesser : ByteArray := prog_6_method_6_code
def yX4_waysByLesser : MethodName := ⟨RX4, "waysByLesser", "(LBelowhouse$Order;II)I"⟩
abbrev cX4_layOut : ByteArray := prog_6_method_7_code
def yX4_layOut : MethodName := ⟨RX4, "layOut", "(LBelowhouse$Order;I)V"⟩
abbrev cX4_thingFor : ByteArray := prog_6_method_8_code
def yX4_thingFor : MethodName := ⟨RX4, "thingFor", "(LBelowhouse$Order;II)I"⟩
abbrev cX4_lineAsNumber : ByteArray := prog_6_method_9_code
def yX4_lineAsNumber : MethodName := ⟨RX4, "lineAsNumber", "(LBelowhouse$Order;)I"⟩
abbrev cX4_findPlace : ByteArray := prog_6_method_10_code
def yX4_findPlace : MethodName := ⟨RX4, "findPlace", "(LBelowhouse$Order;I)I"⟩
abbrev cX4_withoutLast : ByteArray := prog_6_method_11_code
def yX4_withoutLast : MethodName := ⟨RX4, "withoutLast", "(II)I"⟩
abbrev cX4_waysThrough : ByteArray := prog_6_method_12_code
def yX4_waysThrough : MethodName := ⟨RX4, "waysThrough", "(LBelowhouse$Order;II)I"⟩
abbrev cX4_countAhead : ByteArray := prog_6_method_13_code
def yX4_countAhead : MethodName := ⟨RX4, "countAhead", "(LBelowhouse$Order;II)I"⟩
abbrev cX4_countAtPlace : ByteArray := prog_6_method_14_code
def yX4_countAtPlace : MethodName := ⟨RX4, "countAtPlace", "(LBelowhouse$Order;II)I"⟩
abbrev cX4_sumOfPlaces : ByteArray := prog_6_method_15_code
def yX4_sumOfPlaces : MethodName := ⟨RX4, "sumOfPlaces", "(LBelowhouse$Order;I)I"⟩
def RX5 : String := "Belowhouse$Theorem"
def TX5 : u_T := fun k => match k with
  | 0 => ("Belowhouse$Theorem", "tried", "LBelowhouse$Order;", true)
  | 1 => ("Belowhouse$Theorem", "turned", "LBelowhouse$Order;", true)
  | 2 => ("Belowhouse$Theorem", "table", "LBelowhouse$RowTable;", true)
  | 3 => ("Belowhouse$Theorem", "triedTable", "LBelowhouse$RowTable;", true)
  | 4 => ("Belowhouse$Theorem", "chains", "LBelowhouse$Chains;", true)
  | 5 => ("Belowhouse$Theorem", "numbers", "LBelowhouse$Numbers;", true)
  | _ => ("Belowhouse$Theorem", "sizes", "[I", true)
def tyX5 : Nat → FieldType := fun k => match k with
  | 0 => .object "Belowhouse$Order"
  | 1 => .object "Belowhouse$Order"
  | 2 => .object "Belowhouse$RowTable"
  | 3 => .object "Belowhouse$RowTable"
  | 4 => .object "Belowhouse$Chains"
  | 5 => .object "Belowhouse$Numbers"
  | _ => .array .int
theorem nmX5 : ∀ a, a < 7 → ∀ b, b < 7 → a ≠ b → (TX5 a).2.1 ≠ (TX5 b).2.1 := by decide +kernel
theorem tyX5_ok : ∀ k, k < 7 → parseFieldDescriptor (TX5 k).2.2.1 = some (tyX5 k) := by decide +kernel
abbrev cX5_init : ByteArray := prog_7_method_1_code
def yX5_init : MethodName := ⟨RX5, "<init>", "()V"⟩
abbrev cX5_holdsFor : ByteArray := prog_7_method_2_code
def yX5_holdsFor : MethodName := ⟨RX5, "holdsFor", "(LBelowhouse$Order;)Z"⟩
abbrev cX5_holdsForBoth : ByteArray := prog_7_method_3_code
def yX5_holdsForBoth : MethodName := ⟨RX5, "holdsForBoth", "(LBelowhouse$Order;LBelowhouse$Order;)Z"⟩
abbrev cX5_isOrdered : ByteArray := prog_7_method_4_code
def yX5_isOrdered : MethodName := ⟨RX5, "isOrdered", "(LBelowhouse$Order;)Z"⟩
abbrev cX5_linksLeast : ByteArray := prog_7_method_5_code
def yX5_linksLeast : MethodName := ⟨RX5, "linksLeast", "(LBelowhouse$Order;)Z"⟩
abbrev cX5_linksLeastFor : ByteArray := prog_7_method_6_code
def yX5_linksLeastFor : MethodName := ⟨RX5, "linksLeastFor", "(LBelowhouse$Order;II)Z"⟩
abbrev cX5_looseComesBack : ByteArray := prog_7_method_7_code
def yX5_looseComesBack : MethodName := ⟨RX5, "looseComesBack", "(LBelowhouse$Order;)Z"⟩
abbrev cX5_growsByGreatest : ByteArray := prog_7_method_8_code
def yX5_growsByGreatest : MethodName := ⟨RX5, "growsByGreatest", "(LBelowhouse$Order;)Z"⟩
abbrev cX5_rowsTellPairs : ByteArray := prog_7_method_9_code
def yX5_rowsTellPairs : MethodName := ⟨RX5, "rowsTellPairs", "(LBelowhouse$Order;)Z"⟩
abbrev cX5_rowsTellPair : ByteArray := prog_7_method_10_code
def yX5_rowsTellPair : MethodName := ⟨RX5, "rowsTellPair", "(LBelowhouse$Order;III)Z"⟩
abbrev cX5_coversFit : ByteArray := prog_7_method_11_code
def yX5_coversFit : MethodName := ⟨RX5, "coversFit", "(LBelowhouse$Order;)Z"⟩
abbrev cX5_closedSetsFit : ByteArray := prog_7_method_12_code
def yX5_closedSetsFit : MethodName := ⟨RX5, "closedSetsFit", "(LBelowhouse$Order;)Z"⟩
abbrev cX5_closedSetFits : ByteArray := prog_7_method_13_code
def yX5_closedSetFits : MethodName := ⟨RX5, "closedSetFits", "(LBelowhouse$Order;I)Z"⟩
abbrev cX5_staysClosedBy : ByteArray := prog_7_method_14_code
def yX5_staysClosedBy : MethodName := ⟨RX5, "staysClosedBy", "(LBelowhouse$Order;I)Z"⟩
abbrev cX5_sumsAreUndone : ByteArray := prog_7_method_15_code
def yX5_sumsAreUndone : MethodName := ⟨RX5, "sumsAreUndone", "(LBelowhouse$Order;)Z"⟩
abbrev cX5_turnsRound : ByteArray := prog_7_method_16_code
def yX5_turnsRound : MethodName := ⟨RX5, "turnsRound", "(LBelowhouse$Order;)Z"⟩
abbrev cX5_sizesTurn : ByteArray := prog_7_method_17_code
def yX5_sizesTurn : MethodName := ⟨RX5, "sizesTurn", "(LBelowhouse$Order;)Z"⟩
abbrev cX5_besideFits : ByteArray := prog_7_method_18_code
def yX5_besideFits : MethodName := ⟨RX5, "besideFits", "(LBelowhouse$Order;LBelowhouse$Order;)Z"⟩
abbrev cX5_aboveFits : ByteArray := prog_7_method_19_code
def yX5_aboveFits : MethodName := ⟨RX5, "aboveFits", "(LBelowhouse$Order;LBelowhouse$Order;)Z"⟩
abbrev cX5_longestOf : ByteArray := prog_7_method_20_code
def yX5_longestOf : MethodName := ⟨RX5, "longestOf", "(LBelowhouse$Order;)I"⟩
abbrev cX5_waysToChoose : ByteArray := prog_7_method_21_code
def yX5_waysToChoose : MethodName := ⟨RX5, "waysToChoose", "(II)I"⟩
def RX6 : String := "Belowhouse"
def TX6 : u_T := fun k => match k with
  | 0 => ("Belowhouse", "orders", "[LBelowhouse$Order;", true)
  | 1 => ("Belowhouse", "made", "LBelowhouse$Order;", true)
  | 2 => ("Belowhouse", "chains", "LBelowhouse$Chains;", true)
  | 3 => ("Belowhouse", "table", "LBelowhouse$RowTable;", true)
  | 4 => ("Belowhouse", "numbers", "LBelowhouse$Numbers;", true)
  | _ => ("Belowhouse", "theorem", "LBelowhouse$Theorem;", true)
def tyX6 : Nat → FieldType := fun k => match k with
  | 0 => .array (.object "Belowhouse$Order")
  | 1 => .object "Belowhouse$Order"
  | 2 => .object "Belowhouse$Chains"
  | 3 => .object "Belowhouse$RowTable"
  | 4 => .object "Belowhouse$Numbers"
  | _ => .object "Belowhouse$Theorem"
theorem nmX6 : ∀ a, a < 6 → ∀ b, b < 6 → a ≠ b → (TX6 a).2.1 ≠ (TX6 b).2.1 := by decide +kernel
theorem tyX6_ok : ∀ k, k < 6 → parseFieldDescriptor (TX6 k).2.2.1 = some (tyX6 k) := by decide +kernel
abbrev cX6_init : ByteArray := prog_1_method_1_code
def yX6_init : MethodName := ⟨RX6, "<init>", "()V"⟩
abbrev cX6_lay : ByteArray := prog_1_method_2_code
def yX6_lay : MethodName := ⟨RX6, "lay", "(II)I"⟩
abbrev cX6_chain : ByteArray := prog_1_method_3_code
def yX6_chain : MethodName := ⟨RX6, "chain", "(II)I"⟩
abbrev cX6_add : ByteArray := prog_1_method_4_code
def yX6_add : MethodName := ⟨RX6, "add", "(II)I"⟩
abbrev cX6_drop : ByteArray := prog_1_method_5_code
def yX6_drop : MethodName := ⟨RX6, "drop", "(II)I"⟩
abbrev cX6_keep : ByteArray := prog_1_method_6_code
def yX6_keep : MethodName := ⟨RX6, "keep", "(II)I"⟩
abbrev cX6_setValue : ByteArray := prog_1_method_7_code
def yX6_setValue : MethodName := ⟨RX6, "setValue", "(III)I"⟩
abbrev cX6_put : ByteArray := prog_1_method_8_code
def yX6_put : MethodName := ⟨RX6, "put", "(III)I"⟩
abbrev cX6_loose : ByteArray := prog_1_method_9_code
def yX6_loose : MethodName := ⟨RX6, "loose", "(III)I"⟩
abbrev cX6_straighten : ByteArray := prog_1_method_10_code
def yX6_straighten : MethodName := ⟨RX6, "straighten", "(II)I"⟩
abbrev cX6_turn : ByteArray := prog_1_method_11_code
def yX6_turn : MethodName := ⟨RX6, "turn", "(I)I"⟩
abbrev cX6_copy : ByteArray := prog_1_method_12_code
def yX6_copy : MethodName := ⟨RX6, "copy", "(II)I"⟩
abbrev cX6_beside : ByteArray := prog_1_method_13_code
def yX6_beside : MethodName := ⟨RX6, "beside", "(III)I"⟩
abbrev cX6_above : ByteArray := prog_1_method_14_code
def yX6_above : MethodName := ⟨RX6, "above", "(III)I"⟩
abbrev cX6_meet : ByteArray := prog_1_method_15_code
def yX6_meet : MethodName := ⟨RX6, "meet", "(III)I"⟩
abbrev cX6_things : ByteArray := prog_1_method_16_code
def yX6_things : MethodName := ⟨RX6, "things", "(I)I"⟩
abbrev cX6_pairs : ByteArray := prog_1_method_17_code
def yX6_pairs : MethodName := ⟨RX6, "pairs", "(I)I"⟩
abbrev cX6_nexts : ByteArray := prog_1_method_18_code
def yX6_nexts : MethodName := ⟨RX6, "nexts", "(I)I"⟩
abbrev cX6_sign : ByteArray := prog_1_method_19_code
def yX6_sign : MethodName := ⟨RX6, "sign", "(III)C"⟩
abbrev cX6_isNext : ByteArray := prog_1_method_20_code
def yX6_isNext : MethodName := ⟨RX6, "isNext", "(III)Z"⟩
abbrev cX6_lower : ByteArray := prog_1_method_21_code
def yX6_lower : MethodName := ⟨RX6, "lower", "(II)I"⟩
abbrev cX6_upper : ByteArray := prog_1_method_22_code
def yX6_upper : MethodName := ⟨RX6, "upper", "(II)I"⟩
abbrev cX6_ends : ByteArray := prog_1_method_23_code
def yX6_ends : MethodName := ⟨RX6, "ends", "(IZ)I"⟩
abbrev cX6_value : ByteArray := prog_1_method_24_code
def yX6_value : MethodName := ⟨RX6, "value", "(II)I"⟩
abbrev cX6_isSame : ByteArray := prog_1_method_25_code
def yX6_isSame : MethodName := ⟨RX6, "isSame", "(II)Z"⟩
abbrev cX6_isChain : ByteArray := prog_1_method_26_code
def yX6_isChain : MethodName := ⟨RX6, "isChain", "(II)Z"⟩
abbrev cX6_isApart : ByteArray := prog_1_method_27_code
def yX6_isApart : MethodName := ⟨RX6, "isApart", "(II)Z"⟩
abbrev cX6_level : ByteArray := prog_1_method_28_code
def yX6_level : MethodName := ⟨RX6, "level", "(II)I"⟩
abbrev cX6_longest : ByteArray := prog_1_method_29_code
def yX6_longest : MethodName := ⟨RX6, "longest", "(I)I"⟩
abbrev cX6_widest : ByteArray := prog_1_method_30_code
def yX6_widest : MethodName := ⟨RX6, "widest", "(I)I"⟩
abbrev cX6_fewestChains : ByteArray := prog_1_method_31_code
def yX6_fewestChains : MethodName := ⟨RX6, "fewestChains", "(I)I"⟩
abbrev cX6_fewestAparts : ByteArray := prog_1_method_32_code
def yX6_fewestAparts : MethodName := ⟨RX6, "fewestAparts", "(I)I"⟩
abbrev cX6_aparts : ByteArray := prog_1_method_33_code
def yX6_aparts : MethodName := ⟨RX6, "aparts", "(I)I"⟩
abbrev cX6_sets : ByteArray := prog_1_method_34_code
def yX6_sets : MethodName := ⟨RX6, "sets", "(I)I"⟩
abbrev cX6_setsOf : ByteArray := prog_1_method_35_code
def yX6_setsOf : MethodName := ⟨RX6, "setsOf", "(II)I"⟩
abbrev cX6_setAt : ByteArray := prog_1_method_36_code
def yX6_setAt : MethodName := ⟨RX6, "setAt", "(II)I"⟩
abbrev cX6_placeOf : ByteArray := prog_1_method_37_code
def yX6_placeOf : MethodName := ⟨RX6, "placeOf", "(II)I"⟩
abbrev cX6_near : ByteArray := prog_1_method_38_code
def yX6_near : MethodName := ⟨RX6, "near", "(IIC)I"⟩
abbrev cX6_closed : ByteArray := prog_1_method_39_code
def yX6_closed : MethodName := ⟨RX6, "closed", "(II)I"⟩
abbrev cX6_inner : ByteArray := prog_1_method_40_code
def yX6_inner : MethodName := ⟨RX6, "inner", "(II)I"⟩
abbrev cX6_tops : ByteArray := prog_1_method_41_code
def yX6_tops : MethodName := ⟨RX6, "tops", "(II)I"⟩
abbrev cX6_shared : ByteArray := prog_1_method_42_code
def yX6_shared : MethodName := ⟨RX6, "shared", "(II)I"⟩
abbrev cX6_rows : ByteArray := prog_1_method_43_code
def yX6_rows : MethodName := ⟨RX6, "rows", "(I)I"⟩
abbrev cX6_rowAt : ByteArray := prog_1_method_44_code
def yX6_rowAt : MethodName := ⟨RX6, "rowAt", "(II)I"⟩
abbrev cX6_rowPlace : ByteArray := prog_1_method_45_code
def yX6_rowPlace : MethodName := ⟨RX6, "rowPlace", "(II)I"⟩
abbrev cX6_nextRow : ByteArray := prog_1_method_46_code
def yX6_nextRow : MethodName := ⟨RX6, "nextRow", "(II)I"⟩
abbrev cX6_rowsWith : ByteArray := prog_1_method_47_code
def yX6_rowsWith : MethodName := ⟨RX6, "rowsWith", "(III)I"⟩
abbrev cX6_rowsAt : ByteArray := prog_1_method_48_code
def yX6_rowsAt : MethodName := ⟨RX6, "rowsAt", "(III)I"⟩
abbrev cX6_meanPlace : ByteArray := prog_1_method_49_code
def yX6_meanPlace : MethodName := ⟨RX6, "meanPlace", "(II)D"⟩
abbrev cX6_share : ByteArray := prog_1_method_50_code
def yX6_share : MethodName := ⟨RX6, "share", "(III)F"⟩
abbrev cX6_sum : ByteArray := prog_1_method_51_code
def yX6_sum : MethodName := ⟨RX6, "sum", "(II)I"⟩
abbrev cX6_number : ByteArray := prog_1_method_52_code
def yX6_number : MethodName := ⟨RX6, "number", "(III)I"⟩
abbrev cX6_undone : ByteArray := prog_1_method_53_code
def yX6_undone : MethodName := ⟨RX6, "undone", "(II)I"⟩
abbrev cX6_isSound : ByteArray := prog_1_method_54_code
def yX6_isSound : MethodName := ⟨RX6, "isSound", "(I)Z"⟩
abbrev cX6_areSound : ByteArray := prog_1_method_55_code
def yX6_areSound : MethodName := ⟨RX6, "areSound", "(II)Z"⟩
abbrev cX6_checksum : ByteArray := prog_1_method_56_code
def yX6_checksum : MethodName := ⟨RX6, "checksum", "()J"⟩
abbrev cX6_mixedIn : ByteArray := prog_1_method_57_code
def yX6_mixedIn : MethodName := ⟨RX6, "mixedIn", "(JLBelowhouse$Order;)J"⟩
abbrev cX6_orderAt : ByteArray := prog_1_method_58_code
def yX6_orderAt : MethodName := ⟨RX6, "orderAt", "(I)LBelowhouse$Order;"⟩
abbrev cX6_orderWith : ByteArray := prog_1_method_59_code
def yX6_orderWith : MethodName := ⟨RX6, "orderWith", "(II)LBelowhouse$Order;"⟩
abbrev cX6_orderWithBoth : ByteArray := prog_1_method_60_code
def yX6_orderWithBoth : MethodName := ⟨RX6, "orderWithBoth", "(III)LBelowhouse$Order;"⟩
abbrev cX6_orderWithSet : ByteArray := prog_1_method_61_code
def yX6_orderWithSet : MethodName := ⟨RX6, "orderWithSet", "(II)LBelowhouse$Order;"⟩
abbrev cX6_refuseOddMany : ByteArray := prog_1_method_62_code
def yX6_refuseOddMany : MethodName := ⟨RX6, "refuseOddMany", "(I)V"⟩
abbrev cX6_refuseOddValue : ByteArray := prog_1_method_63_code
def yX6_refuseOddValue : MethodName := ⟨RX6, "refuseOddValue", "(I)V"⟩
abbrev cX6_layOutRow : ByteArray := prog_1_method_64_code
def yX6_layOutRow : MethodName := ⟨RX6, "layOutRow", "(LBelowhouse$Order;I)V"⟩
abbrev cX6_joinInto : ByteArray := prog_1_method_65_code
def yX6_joinInto : MethodName := ⟨RX6, "joinInto", "(IIIZ)LBelowhouse$Order;"⟩
abbrev cX6_atLeastOne : ByteArray := prog_1_method_66_code
def yX6_atLeastOne : MethodName := ⟨RX6, "atLeastOne", "(I)I"⟩
abbrev cX6_has : ByteArray := prog_1_method_67_code
def yX6_has : MethodName := ⟨RX6, "has", "(II)Z"⟩
abbrev cX6_isWithin : ByteArray := prog_1_method_68_code
def yX6_isWithin : MethodName := ⟨RX6, "isWithin", "(II)Z"⟩
def RX7 : String := "BelowhouseModel"
def TX7 : u_T := fun k => match k with
  | 0 => ("BelowhouseModel", "things", "[I", true)
  | 1 => ("BelowhouseModel", "values", "[[I", true)
  | 2 => ("BelowhouseModel", "below", "[[[Z", true)
  | 3 => ("BelowhouseModel", "code", "I", false)
  | 4 => ("BelowhouseModel", "ways", "[I", true)
  | 5 => ("BelowhouseModel", "parts", "[I", true)
  | 6 => ("BelowhouseModel", "line", "[I", true)
  | _ => ("BelowhouseModel", "lows", "[I", true)
def tyX7 : Nat → FieldType := fun k => match k with
  | 0 => .array .int
  | 1 => .array (.array .int)
  | 2 => .array (.array (.array .boolean))
  | 3 => .int
  | 4 => .array .int
  | 5 => .array .int
  | 6 => .array .int
  | _ => .array .int
theorem nmX7 : ∀ a, a < 8 → ∀ b, b < 8 → a ≠ b → (TX7 a).2.1 ≠ (TX7 b).2.1 := by decide +kernel
theorem tyX7_ok : ∀ k, k < 8 → parseFieldDescriptor (TX7 k).2.2.1 = some (tyX7 k) := by decide +kernel
abbrev cX7_init : ByteArray := prog_9_method_1_code
def yX7_init : MethodName := ⟨RX7, "<init>", "()V"⟩
abbrev cX7_thrown : ByteArray := prog_9_method_2_code
def yX7_thrown : MethodName := ⟨RX7, "thrown", "()I"⟩
abbrev cX7_lets : ByteArray := prog_9_method_3_code
def yX7_lets : MethodName := ⟨RX7, "lets", "(ZI)Z"⟩
abbrev cX7_in : ByteArray := prog_9_method_4_code
def yX7_in : MethodName := ⟨RX7, "in", "(III)Z"⟩
abbrev cX7_isOrder : ByteArray := prog_9_method_5_code
def yX7_isOrder : MethodName := ⟨RX7, "isOrder", "(I)Z"⟩
abbrev cX7_isThing : ByteArray := prog_9_method_6_code
def yX7_isThing : MethodName := ⟨RX7, "isThing", "(II)Z"⟩
abbrev cX7_isSet : ByteArray := prog_9_method_7_code
def yX7_isSet : MethodName := ⟨RX7, "isSet", "(II)Z"⟩
abbrev cX7_has : ByteArray := prog_9_method_8_code
def yX7_has : MethodName := ⟨RX7, "has", "(II)Z"⟩
abbrev cX7_manyIn : ByteArray := prog_9_method_9_code
def yX7_manyIn : MethodName := ⟨RX7, "manyIn", "(I)I"⟩
abbrev cX7_empty : ByteArray := prog_9_method_10_code
def yX7_empty : MethodName := ⟨RX7, "empty", "(II)V"⟩
abbrev cX7_becomes : ByteArray := prog_9_method_11_code
def yX7_becomes : MethodName := ⟨RX7, "becomes", "(II)V"⟩
abbrev cX7_pairsOf : ByteArray := prog_9_method_12_code
def yX7_pairsOf : MethodName := ⟨RX7, "pairsOf", "(I)I"⟩
abbrev cX7_lay : ByteArray := prog_9_method_13_code
def yX7_lay : MethodName := ⟨RX7, "lay", "(II)I"⟩
abbrev cX7_chain : ByteArray := prog_9_method_14_code
def yX7_chain : MethodName := ⟨RX7, "chain", "(II)I"⟩
abbrev cX7_add : ByteArray := prog_9_method_15_code
def yX7_add : MethodName := ⟨RX7, "add", "(II)I"⟩
abbrev cX7_stay : ByteArray := prog_9_method_16_code
def yX7_stay : MethodName := ⟨RX7, "stay", "(II)V"⟩
abbrev cX7_drop : ByteArray := prog_9_method_17_code
def yX7_drop : MethodName := ⟨RX7, "drop", "(II)I"⟩
abbrev cX7_keep : ByteArray := prog_9_method_18_code
def yX7_keep : MethodName := ⟨RX7, "keep", "(II)I"⟩
abbrev cX7_setValue : ByteArray := prog_9_method_19_code
def yX7_setValue : MethodName := ⟨RX7, "setValue", "(III)I"⟩
abbrev cX7_isUpTo : ByteArray := prog_9_method_20_code
def yX7_isUpTo : MethodName := ⟨RX7, "isUpTo", "(III)Z"⟩
abbrev cX7_put : ByteArray := prog_9_method_21_code
def yX7_put : MethodName := ⟨RX7, "put", "(III)I"⟩
abbrev cX7_next : ByteArray := prog_9_method_22_code
def yX7_next : MethodName := ⟨RX7, "next", "(III)Z"⟩
abbrev cX7_loose : ByteArray := prog_9_method_23_code
def yX7_loose : MethodName := ⟨RX7, "loose", "(III)I"⟩
abbrev cX7_straighten : ByteArray := prog_9_method_24_code
def yX7_straighten : MethodName := ⟨RX7, "straighten", "(II)I"⟩
abbrev cX7_turn : ByteArray := prog_9_method_25_code
def yX7_turn : MethodName := ⟨RX7, "turn", "(I)I"⟩
abbrev cX7_copy : ByteArray := prog_9_method_26_code
def yX7_copy : MethodName := ⟨RX7, "copy", "(II)I"⟩
abbrev cX7_joins : ByteArray := prog_9_method_27_code
def yX7_joins : MethodName := ⟨RX7, "joins", "(IIZ)V"⟩
abbrev cX7_canJoin : ByteArray := prog_9_method_28_code
def yX7_canJoin : MethodName := ⟨RX7, "canJoin", "(III)Z"⟩
abbrev cX7_beside : ByteArray := prog_9_method_29_code
def yX7_beside : MethodName := ⟨RX7, "beside", "(III)I"⟩
abbrev cX7_above : ByteArray := prog_9_method_30_code
def yX7_above : MethodName := ⟨RX7, "above", "(III)I"⟩
abbrev cX7_meet : ByteArray := prog_9_method_31_code
def yX7_meet : MethodName := ⟨RX7, "meet", "(III)I"⟩
abbrev cX7_things : ByteArray := prog_9_method_32_code
def yX7_things : MethodName := ⟨RX7, "things", "(I)I"⟩
abbrev cX7_pairs : ByteArray := prog_9_method_33_code
def yX7_pairs : MethodName := ⟨RX7, "pairs", "(I)I"⟩
abbrev cX7_nexts : ByteArray := prog_9_method_34_code
def yX7_nexts : MethodName := ⟨RX7, "nexts", "(I)I"⟩
abbrev cX7_sign : ByteArray := prog_9_method_35_code
def yX7_sign : MethodName := ⟨RX7, "sign", "(III)C"⟩
abbrev cX7_isNext : ByteArray := prog_9_method_36_code
def yX7_isNext : MethodName := ⟨RX7, "isNext", "(III)Z"⟩
abbrev cX7_lowerOf : ByteArray := prog_9_method_37_code
def yX7_lowerOf : MethodName := ⟨RX7, "lowerOf", "(II)I"⟩
abbrev cX7_upperOf : ByteArray := prog_9_method_38_code
def yX7_upperOf : MethodName := ⟨RX7, "upperOf", "(II)I"⟩
abbrev cX7_lower : ByteArray := prog_9_method_39_code
def yX7_lower : MethodName := ⟨RX7, "lower", "(II)I"⟩
abbrev cX7_upper : ByteArray := prog_9_method_40_code
def yX7_upper : MethodName := ⟨RX7, "upper", "(II)I"⟩
abbrev cX7_ends : ByteArray := prog_9_method_41_code
def yX7_ends : MethodName := ⟨RX7, "ends", "(IZ)I"⟩
abbrev cX7_value : ByteArray := prog_9_method_42_code
def yX7_value : MethodName := ⟨RX7, "value", "(II)I"⟩
abbrev cX7_isSame : ByteArray := prog_9_method_43_code
def yX7_isSame : MethodName := ⟨RX7, "isSame", "(II)Z"⟩
abbrev cX7_isAll : ByteArray := prog_9_method_44_code
def yX7_isAll : MethodName := ⟨RX7, "isAll", "(IIZ)Z"⟩
abbrev cX7_isChain : ByteArray := prog_9_method_45_code
def yX7_isChain : MethodName := ⟨RX7, "isChain", "(II)Z"⟩
abbrev cX7_isApart : ByteArray := prog_9_method_46_code
def yX7_isApart : MethodName := ⟨RX7, "isApart", "(II)Z"⟩
abbrev cX7_levelOf : ByteArray := prog_9_method_47_code
def yX7_levelOf : MethodName := ⟨RX7, "levelOf", "(II)I"⟩
abbrev cX7_level : ByteArray := prog_9_method_48_code
def yX7_level : MethodName := ⟨RX7, "level", "(II)I"⟩
abbrev cX7_mostOf : ByteArray := prog_9_method_49_code
def yX7_mostOf : MethodName := ⟨RX7, "mostOf", "(IZ)I"⟩
abbrev cX7_longest : ByteArray := prog_9_method_50_code
def yX7_longest : MethodName := ⟨RX7, "longest", "(I)I"⟩
abbrev cX7_widest : ByteArray := prog_9_method_51_code
def yX7_widest : MethodName := ⟨RX7, "widest", "(I)I"⟩
abbrev cX7_fewestOf : ByteArray := prog_9_method_52_code
def yX7_fewestOf : MethodName := ⟨RX7, "fewestOf", "(IZ)I"⟩
abbrev cX7_fewestChains : ByteArray := prog_9_method_53_code
def yX7_fewestChains : MethodName := ⟨RX7, "fewestChains", "(I)I"⟩
abbrev cX7_fewestAparts : ByteArray := prog_9_method_54_code
def yX7_fewestAparts : MethodName := ⟨RX7, "fewestAparts", "(I)I"⟩
abbrev cX7_aparts : ByteArray := prog_9_method_55_code
def yX7_aparts : MethodName := ⟨RX7, "aparts", "(I)I"⟩
abbrev cX7_closure : ByteArray := prog_9_method_56_code
def yX7_closure : MethodName := ⟨RX7, "closure", "(II)I"⟩
abbrev cX7_isClosed : ByteArray := prog_9_method_57_code
def yX7_isClosed : MethodName := ⟨RX7, "isClosed", "(II)Z"⟩
abbrev cX7_isAhead : ByteArray := prog_9_method_58_code
def yX7_isAhead : MethodName := ⟨RX7, "isAhead", "(II)Z"⟩
abbrev cX7_placeIn : ByteArray := prog_9_method_59_code
def yX7_placeIn : MethodName := ⟨RX7, "placeIn", "(II)I"⟩
abbrev cX7_manyOf : ByteArray := prog_9_method_60_code
def yX7_manyOf : MethodName := ⟨RX7, "manyOf", "(II)I"⟩
abbrev cX7_sets : ByteArray := prog_9_method_61_code
def yX7_sets : MethodName := ⟨RX7, "sets", "(I)I"⟩
abbrev cX7_setsOf : ByteArray := prog_9_method_62_code
def yX7_setsOf : MethodName := ⟨RX7, "setsOf", "(II)I"⟩
abbrev cX7_setAt : ByteArray := prog_9_method_63_code
def yX7_setAt : MethodName := ⟨RX7, "setAt", "(II)I"⟩
abbrev cX7_placeOf : ByteArray := prog_9_method_64_code
def yX7_placeOf : MethodName := ⟨RX7, "placeOf", "(II)I"⟩
abbrev cX7_near : ByteArray := prog_9_method_65_code
def yX7_near : MethodName := ⟨RX7, "near", "(IIC)I"⟩
abbrev cX7_closed : ByteArray := prog_9_method_66_code
def yX7_closed : MethodName := ⟨RX7, "closed", "(II)I"⟩
abbrev cX7_inner : ByteArray := prog_9_method_67_code
def yX7_inner : MethodName := ⟨RX7, "inner", "(II)I"⟩
abbrev cX7_tops : ByteArray := prog_9_method_68_code
def yX7_tops : MethodName := ⟨RX7, "tops", "(II)I"⟩
abbrev cX7_shared : ByteArray := prog_9_method_69_code
def yX7_shared : MethodName := ⟨RX7, "shared", "(II)I"⟩
abbrev cX7_follow : ByteArray := prog_9_method_70_code
def yX7_follow : MethodName := ⟨RX7, "follow", "(IIIZ)I"⟩
abbrev cX7_rowsOf : ByteArray := prog_9_method_71_code
def yX7_rowsOf : MethodName := ⟨RX7, "rowsOf", "(I)I"⟩
abbrev cX7_lineUp : ByteArray := prog_9_method_72_code
def yX7_lineUp : MethodName := ⟨RX7, "lineUp", "(II)I"⟩
abbrev cX7_placeOfRow : ByteArray := prog_9_method_73_code
def yX7_placeOfRow : MethodName := ⟨RX7, "placeOfRow", "(II)I"⟩
abbrev cX7_rows : ByteArray := prog_9_method_74_code
def yX7_rows : MethodName := ⟨RX7, "rows", "(I)I"⟩
abbrev cX7_rowAt : ByteArray := prog_9_method_75_code
def yX7_rowAt : MethodName := ⟨RX7, "rowAt", "(II)I"⟩
abbrev cX7_rowPlace : ByteArray := prog_9_method_76_code
def yX7_rowPlace : MethodName := ⟨RX7, "rowPlace", "(II)I"⟩
abbrev cX7_nextRow : ByteArray := prog_9_method_77_code
def yX7_nextRow : MethodName := ⟨RX7, "nextRow", "(II)I"⟩
abbrev cX7_with : ByteArray := prog_9_method_78_code
def yX7_with : MethodName := ⟨RX7, "with", "(III)I"⟩
abbrev cX7_at : ByteArray := prog_9_method_79_code
def yX7_at : MethodName := ⟨RX7, "at", "(III)I"⟩
abbrev cX7_rowsWith : ByteArray := prog_9_method_80_code
def yX7_rowsWith : MethodName := ⟨RX7, "rowsWith", "(III)I"⟩
abbrev cX7_rowsAt : ByteArray := prog_9_method_81_code
def yX7_rowsAt : MethodName := ⟨RX7, "rowsAt", "(III)I"⟩
abbrev cX7_meanPlace : ByteArray := prog_9_method_82_code
def yX7_meanPlace : MethodName := ⟨RX7, "meanPlace", "(II)D"⟩
abbrev cX7_share : ByteArray := prog_9_method_83_code
def yX7_share : MethodName := ⟨RX7, "share", "(III)F"⟩
abbrev cX7_sumOf : ByteArray := prog_9_method_84_code
def yX7_sumOf : MethodName := ⟨RX7, "sumOf", "(II)I"⟩
abbrev cX7_numberOf : ByteArray := prog_9_method_85_code
def yX7_numberOf : MethodName := ⟨RX7, "numberOf", "(III)I"⟩
abbrev cX7_sum : ByteArray := prog_9_method_86_code
def yX7_sum : MethodName := ⟨RX7, "sum", "(II)I"⟩
abbrev cX7_number : ByteArray := prog_9_method_87_code
def yX7_number : MethodName := ⟨RX7, "number", "(III)I"⟩
abbrev cX7_undone : ByteArray := prog_9_method_88_code
def yX7_undone : MethodName := ⟨RX7, "undone", "(II)I"⟩
abbrev cX7_isSound : ByteArray := prog_9_method_89_code
def yX7_isSound : MethodName := ⟨RX7, "isSound", "(I)Z"⟩
abbrev cX7_areSound : ByteArray := prog_9_method_90_code
def yX7_areSound : MethodName := ⟨RX7, "areSound", "(II)Z"⟩
abbrev cX7_checksum : ByteArray := prog_9_method_91_code
def yX7_checksum : MethodName := ⟨RX7, "checksum", "()J"⟩
def RJ6 : String := "java/lang/Integer"
abbrev cJ6_bitCount_0f7a4 : ByteArray := prog_14_method_49_code
def yJ6_bitCount_0f7a4 : MethodName := ⟨RJ6, "bitCount", "(I)I"⟩
def RJ9 : String := "java/lang/Math"
abbrev cJ9_max_7cf53 : ByteArray := prog_15_method_65_code
def yJ9_max_7cf53 : MethodName := ⟨RJ9, "max", "(II)I"⟩
abbrev cJ9_min_7cf53 : ByteArray := prog_15_method_69_code
def yJ9_min_7cf53 : MethodName := ⟨RJ9, "min", "(II)I"⟩
def RJ0 : String := "java/lang/String"
def RL : String := "BelowhouseLaw"
abbrev cL_lay : ByteArray := method_3_code
def yL_lay : MethodName := ⟨RL, "lay", "(LBelowhouse;II[J)I"⟩
abbrev cL_chain : ByteArray := method_4_code
def yL_chain : MethodName := ⟨RL, "chain", "(LBelowhouse;II[J)I"⟩
abbrev cL_add : ByteArray := method_5_code
def yL_add : MethodName := ⟨RL, "add", "(LBelowhouse;II[J)I"⟩
abbrev cL_drop : ByteArray := method_6_code
def yL_drop : MethodName := ⟨RL, "drop", "(LBelowhouse;II[J)I"⟩
abbrev cL_keep : ByteArray := method_7_code
def yL_keep : MethodName := ⟨RL, "keep", "(LBelowhouse;II[J)I"⟩
abbrev cL_setValue : ByteArray := method_8_code
def yL_setValue : MethodName := ⟨RL, "setValue", "(LBelowhouse;III[J)I"⟩
abbrev cL_put : ByteArray := method_9_code
def yL_put : MethodName := ⟨RL, "put", "(LBelowhouse;III[J)I"⟩
abbrev cL_loose : ByteArray := method_10_code
def yL_loose : MethodName := ⟨RL, "loose", "(LBelowhouse;III[J)I"⟩
abbrev cL_straighten : ByteArray := method_11_code
def yL_straighten : MethodName := ⟨RL, "straighten", "(LBelowhouse;II[J)I"⟩
abbrev cL_turn : ByteArray := method_12_code
def yL_turn : MethodName := ⟨RL, "turn", "(LBelowhouse;I[J)I"⟩
abbrev cL_copy : ByteArray := method_13_code
def yL_copy : MethodName := ⟨RL, "copy", "(LBelowhouse;II[J)I"⟩
abbrev cL_beside : ByteArray := method_14_code
def yL_beside : MethodName := ⟨RL, "beside", "(LBelowhouse;III[J)I"⟩
abbrev cL_above : ByteArray := method_15_code
def yL_above : MethodName := ⟨RL, "above", "(LBelowhouse;III[J)I"⟩
abbrev cL_meet : ByteArray := method_16_code
def yL_meet : MethodName := ⟨RL, "meet", "(LBelowhouse;III[J)I"⟩
abbrev cL_things : ByteArray := method_17_code
def yL_things : MethodName := ⟨RL, "things", "(LBelowhouse;I[J)I"⟩
abbrev cL_pairs : ByteArray := method_18_code
def yL_pairs : MethodName := ⟨RL, "pairs", "(LBelowhouse;I[J)I"⟩
abbrev cL_nexts : ByteArray := method_19_code
def yL_nexts : MethodName := ⟨RL, "nexts", "(LBelowhouse;I[J)I"⟩
abbrev cL_sign : ByteArray := method_20_code
def yL_sign : MethodName := ⟨RL, "sign", "(LBelowhouse;III[J)I"⟩
abbrev cL_isNext : ByteArray := method_21_code
def yL_isNext : MethodName := ⟨RL, "isNext", "(LBelowhouse;III[J)I"⟩
abbrev cL_lower : ByteArray := method_22_code
def yL_lower : MethodName := ⟨RL, "lower", "(LBelowhouse;II[J)I"⟩
abbrev cL_upper : ByteArray := method_23_code
def yL_upper : MethodName := ⟨RL, "upper", "(LBelowhouse;II[J)I"⟩
abbrev cL_ends : ByteArray := method_24_code
def yL_ends : MethodName := ⟨RL, "ends", "(LBelowhouse;IZ[J)I"⟩
abbrev cL_value : ByteArray := method_25_code
def yL_value : MethodName := ⟨RL, "value", "(LBelowhouse;II[J)I"⟩
abbrev cL_isSame : ByteArray := method_26_code
def yL_isSame : MethodName := ⟨RL, "isSame", "(LBelowhouse;II[J)I"⟩
abbrev cL_isChain : ByteArray := method_27_code
def yL_isChain : MethodName := ⟨RL, "isChain", "(LBelowhouse;II[J)I"⟩
abbrev cL_isApart : ByteArray := method_28_code
def yL_isApart : MethodName := ⟨RL, "isApart", "(LBelowhouse;II[J)I"⟩
abbrev cL_level : ByteArray := method_29_code
def yL_level : MethodName := ⟨RL, "level", "(LBelowhouse;II[J)I"⟩
abbrev cL_longest : ByteArray := method_30_code
def yL_longest : MethodName := ⟨RL, "longest", "(LBelowhouse;I[J)I"⟩
abbrev cL_widest : ByteArray := method_31_code
def yL_widest : MethodName := ⟨RL, "widest", "(LBelowhouse;I[J)I"⟩
abbrev cL_fewestChains : ByteArray := method_32_code
def yL_fewestChains : MethodName := ⟨RL, "fewestChains", "(LBelowhouse;I[J)I"⟩
abbrev cL_fewestAparts : ByteArray := method_33_code
def yL_fewestAparts : MethodName := ⟨RL, "fewestAparts", "(LBelowhouse;I[J)I"⟩
abbrev cL_aparts : ByteArray := method_34_code
def yL_aparts : MethodName := ⟨RL, "aparts", "(LBelowhouse;I[J)I"⟩
abbrev cL_sets : ByteArray := method_35_code
def yL_sets : MethodName := ⟨RL, "sets", "(LBelowhouse;I[J)I"⟩
abbrev cL_setsOf : ByteArray := method_36_code
def yL_setsOf : MethodName := ⟨RL, "setsOf", "(LBelowhouse;II[J)I"⟩
abbrev cL_setAt : ByteArray := method_37_code
def yL_setAt : MethodName := ⟨RL, "setAt", "(LBelowhouse;II[J)I"⟩
abbrev cL_placeOf : ByteArray := method_38_code
def yL_placeOf : MethodName := ⟨RL, "placeOf", "(LBelowhouse;II[J)I"⟩
abbrev cL_near : ByteArray := method_39_code
def yL_near : MethodName := ⟨RL, "near", "(LBelowhouse;IIC[J)I"⟩
abbrev cL_closed : ByteArray := method_40_code
def yL_closed : MethodName := ⟨RL, "closed", "(LBelowhouse;II[J)I"⟩
abbrev cL_inner : ByteArray := method_41_code
def yL_inner : MethodName := ⟨RL, "inner", "(LBelowhouse;II[J)I"⟩
abbrev cL_tops : ByteArray := method_42_code
def yL_tops : MethodName := ⟨RL, "tops", "(LBelowhouse;II[J)I"⟩
abbrev cL_shared : ByteArray := method_43_code
def yL_shared : MethodName := ⟨RL, "shared", "(LBelowhouse;II[J)I"⟩
abbrev cL_rows : ByteArray := method_44_code
def yL_rows : MethodName := ⟨RL, "rows", "(LBelowhouse;I[J)I"⟩
abbrev cL_rowAt : ByteArray := method_45_code
def yL_rowAt : MethodName := ⟨RL, "rowAt", "(LBelowhouse;II[J)I"⟩
abbrev cL_rowPlace : ByteArray := method_46_code
def yL_rowPlace : MethodName := ⟨RL, "rowPlace", "(LBelowhouse;II[J)I"⟩
abbrev cL_nextRow : ByteArray := method_47_code
def yL_nextRow : MethodName := ⟨RL, "nextRow", "(LBelowhouse;II[J)I"⟩
abbrev cL_rowsWith : ByteArray := method_48_code
def yL_rowsWith : MethodName := ⟨RL, "rowsWith", "(LBelowhouse;III[J)I"⟩
abbrev cL_rowsAt : ByteArray := method_49_code
def yL_rowsAt : MethodName := ⟨RL, "rowsAt", "(LBelowhouse;III[J)I"⟩
abbrev cL_meanPlace : ByteArray := method_50_code
def yL_meanPlace : MethodName := ⟨RL, "meanPlace", "(LBelowhouse;II[D)I"⟩
abbrev cL_share : ByteArray := method_51_code
def yL_share : MethodName := ⟨RL, "share", "(LBelowhouse;III[D)I"⟩
abbrev cL_sum : ByteArray := method_52_code
def yL_sum : MethodName := ⟨RL, "sum", "(LBelowhouse;II[J)I"⟩
abbrev cL_number : ByteArray := method_53_code
def yL_number : MethodName := ⟨RL, "number", "(LBelowhouse;III[J)I"⟩
abbrev cL_undone : ByteArray := method_54_code
def yL_undone : MethodName := ⟨RL, "undone", "(LBelowhouse;II[J)I"⟩
abbrev cL_isSound : ByteArray := method_55_code
def yL_isSound : MethodName := ⟨RL, "isSound", "(LBelowhouse;I[J)I"⟩
abbrev cL_areSound : ByteArray := method_56_code
def yL_areSound : MethodName := ⟨RL, "areSound", "(LBelowhouse;II[J)I"⟩
abbrev cL_law : ByteArray := code
def yL_law : MethodName := ⟨RL, "law", "([I)Z"⟩
abbrev vwCl : List vw_C := [(RX0, TX0, 2), (RX2, TX2, 1), (RX3, TX3, 3), (RX4, TX4, 3), (RX5, TX5, 7), (RX6, TX6, 6), (RX7, TX7, 8)]
/-! ===== the table's words, as one predicate of a state ===== -/
def okW : Cond → Bool
  | .methodLinkNest _ _ _ _ => true
  | .castable _ _ => true
  | .declares _ => true
  | w => w.onTables && w.keeps
def Tz : List Cond := lw_tbl.filter okW
def TB (U : State) : Prop := ∀ w ∈ Tz, w.before #[] U = true
theorem okW_onTables {w : Cond} (h : okW w = true) : w.onTables = true := by
  cases w <;> first | rfl | (simp only [okW, Bool.and_eq_true] at h; exact h.1)
theorem TB.use {U : State} (h : TB U) {w : Cond} (hw : w ∈ Tz) {A : Array Value} : w.before A U = true :=
  va_Nw.use (okW_onTables (List.mem_filter.mp hw).2) (h w hw)
theorem okW_moved {w : Cond} (hk : okW w = true) {s U : State} (hW : s.WarmedH U.vm) (h : w.before #[] s = true) : w.before #[] U = true := by
  cases w with
  | methodLinkNest a i x z => exact va_Nw.warmM hW h
  | castable a b => exact va_Nw.warmC hW h
  | declares x => exact va_Nw.warmD hW h
  | _ => exact word_at hW (Or.inl hk) h
theorem TB.moved {s U : State} (hW : s.WarmedH U.vm) (h : TB s) : TB U := fun w hw => okW_moved (List.mem_filter.mp hw).2 hW (h w hw)
theorem TB.same {u U : State} (e : u.vm = U.vm) (h : TB u) : TB U := fun w hw => va_Nw.same (okW_onTables (List.mem_filter.mp hw).2) e (h w hw)
theorem Tz_mem {w : Cond} (h : w ∈ lw_tbl) (hk : okW w = true) : w ∈ Tz := List.mem_filter.mpr ⟨h, hk⟩
theorem tz0 {w : Cond} (h : w ∈ k2_sels lw_privs) : w ∈ lw_tbl := List.mem_append_left _ h
theorem tzT {w : Cond} (h : w ∈ tables_1) : w ∈ lw_tbl := List.mem_append_right _ h
theorem tz1 {w : Cond} (h : w ∈ tables_1_1) : w ∈ lw_tbl := tzT (List.mem_append_left _ h)
theorem tz2 {w : Cond} (h : w ∈ tables_1_2) : w ∈ lw_tbl := tzT (List.mem_append_right _ (List.mem_append_left _ h))
theorem tz3 {w : Cond} (h : w ∈ tables_1_3) : w ∈ lw_tbl := tzT (List.mem_append_right _ (List.mem_append_right _ (List.mem_append_left _ h)))
theorem tz4 {w : Cond} (h : w ∈ tables_1_4) : w ∈ lw_tbl := tzT (List.mem_append_right _ (List.mem_append_right _ (List.mem_append_right _ (List.mem_append_left _ h))))
theorem tz5 {w : Cond} (h : w ∈ tables_1_5) : w ∈ lw_tbl := tzT (List.mem_append_right _ (List.mem_append_right _ (List.mem_append_right _ (List.mem_append_right _ (List.mem_append_left _ h)))))
theorem tz6 {w : Cond} (h : w ∈ tables_1_6) : w ∈ lw_tbl := tzT (List.mem_append_right _ (List.mem_append_right _ (List.mem_append_right _ (List.mem_append_right _ (List.mem_append_right _ (List.mem_append_left _ h))))))
theorem tz7 {w : Cond} (h : w ∈ tables_1_7) : w ∈ lw_tbl := tzT (List.mem_append_right _ (List.mem_append_right _ (List.mem_append_right _ (List.mem_append_right _ (List.mem_append_right _ (List.mem_append_right _ h))))))
/-! ===== the world: all cells, made at the law's start, at B + k ===== -/
abbrev Mem : Type := Nat → Nat → Int32
abbrev Ou : Type := (Nat → Int64) × (Nat → UInt64)
/-- kinds of cells: 0 int[], 1 boolean[], 2 Order, 3 Chains, 4 RowTable, 5 Numbers, 6 Theorem, 7 Belowhouse, 8 Model, 9 Order[], 10 int[][], 11 boolean[][][], 12 boolean[][], 13 long[], 14 double[] -/
def kdL : List Nat := [7, 9, 2, 0, 0, 2, 0, 0, 2, 0, 0, 2, 0, 0, 2, 0, 0, 3, 0, 0, 4, 0, 0, 0, 5, 0, 6, 2, 0, 0, 2, 0, 0, 4, 0, 0, 0, 4, 0, 0, 0, 3, 0, 0, 5, 0, 0, 8, 0, 10, 0, 0, 0, 0, 0, 11, 12, 1, 1, 1, 1, 1, 1, 1, 1, 1, 12, 1, 1, 1, 1, 1, 1, 1, 1, 1, 12, 1, 1, 1, 1, 1, 1, 1, 1, 1, 12, 1, 1, 1, 1, 1, 1, 1, 1, 1, 12, 1, 1, 1, 1, 1, 1, 1, 1, 1, 0, 0, 0, 0, 13, 14]
def lnL : List Nat := [0, 4, 0, 9, 9, 0, 9, 9, 0, 9, 9, 0, 9, 9, 0, 9, 9, 0, 9, 9, 0, 512, 512, 9, 0, 9, 0, 0, 9, 9, 0, 9, 9, 0, 512, 512, 9, 0, 512, 512, 9, 0, 9, 9, 0, 9, 10, 0, 5, 5, 9, 9, 9, 9, 9, 5, 9, 9, 9, 9, 9, 9, 9, 9, 9, 9, 9, 9, 9, 9, 9, 9, 9, 9, 9, 9, 9, 9, 9, 9, 9, 9, 9, 9, 9, 9, 9, 9, 9, 9, 9, 9, 9, 9, 9, 9, 9, 9, 9, 9, 9, 9, 9, 9, 9, 9, 512, 512, 9, 9, 1, 1]
def kd (k : Nat) : Nat := kdL.getD k 99
def ln (k : Nat) : Nat := lnL.getD k 0
def ent (B : Nat) (Y : Nat → ClassId) (M : Mem) (o : Ou) (k : Nat) : va_E := match kd k with
  | 0 => .inl (Y 0, ln k, .inl (M k))
  | 1 => .inl (Y 1, ln k, .inl (M k))
  | 2 => .inr (2, [.int (M k 0), .ref (B + (k + 1)), .ref (B + (k + 2))])
  | 3 => .inr (0, [.ref (B + (k + 1)), .ref (B + (k + 2))])
  | 4 => .inr (3, [.ref (B + (k + 1)), .ref (B + (k + 2)), .ref (B + (k + 3))])
  | 5 => .inr (1, [.ref (B + (k + 1))])
  | 6 => .inr (4, [.ref (B + 27), .ref (B + 30), .ref (B + 33), .ref (B + 37), .ref (B + 41), .ref (B + 44), .ref (B + 46)])
  | 7 => .inr (5, [.ref (B + 1), .ref (B + 14), .ref (B + 17), .ref (B + 20), .ref (B + 24), .ref (B + 26)])
  | 8 => .inr (6, [.ref (B + 48), .ref (B + 49), .ref (B + 55), .int (M k 3), .ref (B + 106), .ref (B + 107), .ref (B + 108), .ref (B + 109)])
  | 9 => .inl (Y 2, 4, .inr (.inr (.inr (.inr (fun j => some (B + (2 + 3 * j)))))))
  | 10 => .inl (Y 3, 5, .inr (.inr (.inr (.inr (fun j => some (B + (50 + j)))))))
  | 11 => .inl (Y 4, 5, .inr (.inr (.inr (.inr (fun j => some (B + (56 + 10 * j)))))))
  | 12 => .inl (Y 5, 9, .inr (.inr (.inr (.inr (fun j => some (B + (k + 1 + j)))))))
  | 13 => .inl (Y 6, 1, .inr (.inl o.1))
  | _ => .inl (Y 7, 1, .inr (.inr (.inr (.inl o.2))))
def WL (B : Nat) (Y : Nat → ClassId) (M : Mem) (o : Ou) : va_W := (List.range 112).map (fun k => (B + k, ent B Y M o k))
theorem WL_at {B : Nat} {Y : Nat → ClassId} {M : Mem} {o : Ou} {k : Nat} (h : k < 112) : (WL B Y M o)[k]? = some (B + k, ent B Y M o k) := by
  simp [WL, List.getElem?_range h]
theorem WL_out {B : Nat} {Y : Nat → ClassId} {M : Mem} {o : Ou} {k : Nat} (h : ¬ k < 112) : (WL B Y M o)[k]? = none := by
  simp [WL]; omega
theorem WL_inv {B : Nat} {Y : Nat → ClassId} {M : Mem} {o : Ou} {k : Nat} {q : Nat × va_E} (h : (WL B Y M o)[k]? = some q) : k < 112 ∧ q = (B + k, ent B Y M o k) := by
  by_cases hk : k < 112
  · rw [WL_at hk] at h
    exact ⟨hk, (Option.some.inj h).symm⟩
  · rw [WL_out hk] at h
    cases h
theorem WL_D (B : Nat) (Y : Nat → ClassId) (M : Mem) (o : Ou) : va_D (fun q => B ≤ q) (WL B Y M o) := by
  refine ⟨fun i j p q hi hj h => ?_, fun k q h => ?_⟩
  · obtain ⟨-, rfl⟩ := WL_inv hi
    obtain ⟨-, rfl⟩ := WL_inv hj
    dsimp only at h
    omega
  · obtain ⟨-, rfl⟩ := WL_inv h
    exact Nat.le_add_right _ _
theorem ent_cg {B : Nat} {Y : Nat → ClassId} {M M' : Mem} {o o' : Ou} {k : Nat} (h : M k = M' k) (ho : k < 110 → True) (ho2 : o = o' ∨ k < 110) (hk : k < 112) : ent B Y M o k = ent B Y M' o' k := by
  have h13 : k < 110 → kd k ≠ 13 ∧ kd k < 14 := by
    intro hk1
    have : ∀ j, j < 110 → kd j ≠ 13 ∧ kd j < 14 := by decide +kernel
    exact this k hk1
  rcases ho2 with rfl | h2
  · unfold ent
    rw [h]
  · obtain ⟨a, b⟩ := h13 h2
    unfold ent
    rw [h]
    generalize kd k = z at a b
    match z, a, b with
    | 0, _, _ => rfl
    | 1, _, _ => rfl
    | 2, _, _ => rfl
    | 3, _, _ => rfl
    | 4, _, _ => rfl
    | 5, _, _ => rfl
    | 6, _, _ => rfl
    | 7, _, _ => rfl
    | 8, _, _ => rfl
    | 9, _, _ => rfl
    | 10, _, _ => rfl
    | 11, _, _ => rfl
    | 12, _, _ => rfl
    | 13, a, _ => exact absurd rfl a
    | z + 14, _, b => omega
def upM (M : Mem) (k i : Nat) (x : Int32) : Mem := fun a j => if a = k then (if j = i then x else M a j) else M a j
theorem upM_row {M : Mem} {k i : Nat} {x : Int32} : upM M k i x k = upd (M k) i x := by
  funext j
  simp [upM, upd]
theorem upM_ne {M : Mem} {k i a : Nat} {x : Int32} (h : a ≠ k) : upM M k i x a = M a := by
  funext j
  simp [upM, h]
/-- one cell of the world is written -/
theorem WL_set {B : Nat} {Y : Nat → ClassId} {M M' : Mem} {o o' : Ou} {k : Nat} {e : va_E} (hk : k < 112) (he : ent B Y M' o' k = e) (hn : ∀ a, a ≠ k → M' a = M a) (ho : o' = o ∨ 110 ≤ k ∧ ∀ a, a < 112 → 110 ≤ a → a ≠ k → ent B Y M' o' a = ent B Y M o a) : (WL B Y M o).set k (B + k, e) = WL B Y M' o' := by
  apply List.ext_getElem?
  intro j
  rw [List.getElem?_set]
  by_cases hj : k = j
  · subst hj
    rw [if_pos rfl, WL_at hk, he]
    simp [WL, hk]
  · rw [if_neg hj]
    by_cases h1 : j < 112
    · rw [WL_at h1, WL_at h1]
      congr 2
      rcases ho with rfl | ⟨h2, h3⟩
      · exact ent_cg (hn j (fun z => hj z.symm)).symm (fun _ => trivial) (Or.inl rfl) h1
      · by_cases h4 : j < 110
        · exact ent_cg (hn j (fun z => hj z.symm)).symm (fun _ => trivial) (Or.inr h4) h1
        · exact (h3 j h1 (by omega) (fun z => hj z.symm)).symm
    · rw [WL_out h1, WL_out h1]
/-! kinds of cells -/
theorem kd_lt {k : Nat} (h : kd k ≠ 99) : k < 112 := by
  by_cases hk : k < 112
  · exact hk
  · exfalso
    apply h
    have e : kdL.length = 112 := by decide +kernel
    have h0 : kdL[k]? = none := List.getElem?_eq_none (by omega)
    unfold kd
    rw [List.getD_eq_getElem?_getD, h0]
    rfl
/-- an Order -/
theorem kO {q : Nat} (h : kd q = 2) : q < 112 ∧ kd (q + 1) = 0 ∧ ln (q + 1) = 9 ∧ kd (q + 2) = 0 ∧ ln (q + 2) = 9 ∧ q + 2 < 112 ∧ 2 ≤ q := by
  have hq : q < 112 := kd_lt (by rw [h]; decide)
  have : ∀ j, j < 112 → kd j = 2 → kd (j + 1) = 0 ∧ ln (j + 1) = 9 ∧ kd (j + 2) = 0 ∧ ln (j + 2) = 9 ∧ j + 2 < 112 ∧ 2 ≤ j := by decide +kernel
  exact ⟨hq, this q hq h⟩
theorem kC {q : Nat} (h : kd q = 3) : q < 112 ∧ kd (q + 1) = 0 ∧ ln (q + 1) = 9 ∧ kd (q + 2) = 0 ∧ ln (q + 2) = 9 ∧ q + 2 < 112 := by
  have hq : q < 112 := kd_lt (by rw [h]; decide)
  have : ∀ j, j < 112 → kd j = 3 → kd (j + 1) = 0 ∧ ln (j + 1) = 9 ∧ kd (j + 2) = 0 ∧ ln (j + 2) = 9 ∧ j + 2 < 112 := by decide +kernel
  exact ⟨hq, this q hq h⟩
theorem kR {q : Nat} (h : kd q = 4) : q < 112 ∧ kd (q + 1) = 0 ∧ ln (q + 1) = 512 ∧ kd (q + 2) = 0 ∧ ln (q + 2) = 512 ∧ kd (q + 3) = 0 ∧ ln (q + 3) = 9 ∧ q + 3 < 112 := by
  have hq : q < 112 := kd_lt (by rw [h]; decide)
  have : ∀ j, j < 112 → kd j = 4 → kd (j + 1) = 0 ∧ ln (j + 1) = 512 ∧ kd (j + 2) = 0 ∧ ln (j + 2) = 512 ∧ kd (j + 3) = 0 ∧ ln (j + 3) = 9 ∧ j + 3 < 112 := by decide +kernel
  exact ⟨hq, this q hq h⟩
theorem kN {q : Nat} (h : kd q = 5) : q < 112 ∧ kd (q + 1) = 0 ∧ ln (q + 1) = 9 ∧ q + 1 < 112 := by
  have hq : q < 112 := kd_lt (by rw [h]; decide)
  have : ∀ j, j < 112 → kd j = 5 → kd (j + 1) = 0 ∧ ln (j + 1) = 9 ∧ j + 1 < 112 := by decide +kernel
  exact ⟨hq, this q hq h⟩
/-- an int array: kind and length -/
def IA (k n : Nat) : Prop := kd k = 0 ∧ ln k = n
def ZA (k : Nat) : Prop := kd k = 1
theorem ZA_ln {k : Nat} (h : ZA k) : k < 112 ∧ ln k = 9 := by
  have hq : k < 112 := kd_lt (by rw [show kd k = 1 from h]; decide)
  have : ∀ j, j < 112 → kd j = 1 → ln j = 9 := by decide +kernel
  exact ⟨hq, this k hq h⟩
theorem IA_lt {k n : Nat} (h : IA k n) : k < 112 := kd_lt (by rw [h.1]; decide)
theorem iO1 {q : Nat} (h : kd q = 2) : IA (q + 1) 9 := ⟨(kO h).2.1, (kO h).2.2.1⟩
theorem iO2 {q : Nat} (h : kd q = 2) : IA (q + 2) 9 := ⟨(kO h).2.2.2.1, (kO h).2.2.2.2.1⟩
theorem iC1 {q : Nat} (h : kd q = 3) : IA (q + 1) 9 := ⟨(kC h).2.1, (kC h).2.2.1⟩
theorem iC2 {q : Nat} (h : kd q = 3) : IA (q + 2) 9 := ⟨(kC h).2.2.2.1, (kC h).2.2.2.2.1⟩
theorem iR1 {q : Nat} (h : kd q = 4) : IA (q + 1) 512 := ⟨(kR h).2.1, (kR h).2.2.1⟩
theorem iR2 {q : Nat} (h : kd q = 4) : IA (q + 2) 512 := ⟨(kR h).2.2.2.1, (kR h).2.2.2.2.1⟩
theorem iR3 {q : Nat} (h : kd q = 4) : IA (q + 3) 9 := ⟨(kR h).2.2.2.2.2.1, (kR h).2.2.2.2.2.2.1⟩
theorem iN1 {q : Nat} (h : kd q = 5) : IA (q + 1) 9 := ⟨(kN h).2.1, (kN h).2.2.1⟩
/-- Order number i of the object -/
theorem kOrd {j : Nat} (h : j < 4) : kd (2 + 3 * j) = 2 := by
  have : ∀ i, i < 4 → kd (2 + 3 * i) = 2 := by decide +kernel
  exact this j h
theorem iVal {j : Nat} (h : j < 5) : IA (50 + j) 9 := by
  have : ∀ i, i < 5 → kd (50 + i) = 0 ∧ ln (50 + i) = 9 := by decide +kernel
  exact this j h
theorem kBel {j : Nat} (h : j < 5) : kd (56 + 10 * j) = 12 := by
  have : ∀ i, i < 5 → kd (56 + 10 * i) = 12 := by decide +kernel
  exact this j h
theorem kRow {q j : Nat} (h : kd q = 12) (hj : j < 9) : ZA (q + 1 + j) := by
  have hq : q < 112 := kd_lt (by rw [h]; decide)
  have : ∀ k, k < 112 → kd k = 12 → ∀ i, i < 9 → kd (k + 1 + i) = 1 := by decide +kernel
  exact this q hq h j hj
/-! ===== the pure words of the functions ===== -/
def inb (i : Int32) (n : Nat) : Bool := !(decide (i < 0)) && decide (i.toNatClampNeg < n)
theorem inb_in {i : Int32} {n : Nat} (h : inb i n = true) : vp_in i n := by
  simp only [inb, Bool.and_eq_true, Bool.not_eq_true', decide_eq_false_iff_not, decide_eq_true_eq] at h
  rintro (q | q)
  · exact h.1 q
  · omega
theorem inb_lt {i : Int32} {n : Nat} (h : inb i n = true) : i.toNatClampNeg < n := by
  simp only [inb, Bool.and_eq_true, decide_eq_true_eq] at h
  exact h.2
def chk {α : Type} (b : Bool) (x : Option α) : Option α := match b with
  | true => x
  | false => none
theorem chk_t {α : Type} {x : Option α} : chk true x = x := rfl
theorem chk_of {α : Type} {b : Bool} {x : Option α} (h : b = true) : chk b x = x := by rw [h]; rfl
theorem chk_i {α : Type} {b : Bool} {x : Option α} {r : α} (h : chk b x = some r) : b = true ∧ x = some r := by
  cases b
  · cases h
  · exact ⟨rfl, h⟩
def bd {α β : Type} (x : Option α) (g : α → Option β) : Option β := match x with
  | some a => g a
  | none => none
theorem bd_some {α β : Type} (a : α) (g : α → Option β) : bd (some a) g = g a := rfl
theorem bd_of {α β : Type} {x : Option α} {a : α} {g : α → Option β} (h : x = some a) : bd x g = g a := by rw [h]; rfl
theorem bd_i {α β : Type} {x : Option α} {g : α → Option β} {r : β} (h : bd x g = some r) : ∃ a, x = some a ∧ g a = some r := by
  cases x with
  | none => cases h
  | some a => exact ⟨a, rfl, h⟩
def lp {σ ρ : Type} (g : (σ → Option ρ) → σ → Option ρ) : Nat → σ → Option ρ
  | 0, _ => none
  | n + 1, a => g (lp g n) a
theorem lp_0 {σ ρ : Type} (g : (σ → Option ρ) → σ → Option ρ) (a : σ) : lp g 0 a = none := rfl
theorem lp_s {σ ρ : Type} (g : (σ → Option ρ) → σ → Option ρ) (n : Nat) (a : σ) : lp g (n + 1) a = g (lp g n) a := rfl
def isb (x : Int32) : Bool := decide (x = 0) || decide (x = 1)
theorem isb_or {x : Int32} (h : isb x = true) : x = 0 ∨ x = 1 := by
  simpa [isb] using h
theorem isb_nz {x : Int32} (h : isb x = true) : narrow .boolean (.int x) = .int x := by
  rcases isb_or h with rfl | rfl <;> decide +kernel
theorem isb_vn {x : Int32} (h : isb x = true) : vp_nar .boolean x = x := by
  rcases isb_or h with rfl | rfl <;> decide +kernel
def ush (x y : Int32) : Int32 := (x.toUInt32 >>> (y.toUInt32 &&& Int32.toUInt32 31)).toInt32
def jmax (x y : Int32) : Int32 := if x < y then y else x
def jmin (x y : Int32) : Int32 := if y < x then y else x
theorem inX0 : ∀ w ∈ u_ws RX0 TX0 2, w ∈ Tz := fun w hw => (List.forall_mem_cons.mpr ⟨Tz_mem (tz1 (List.mem_of_getElem? (i := 62) rfl)) rfl, List.forall_mem_cons.mpr ⟨Tz_mem (tz1 (List.mem_of_getElem? (i := 64) rfl)) rfl, List.forall_mem_nil _⟩⟩ : ∀ w ∈ [Cond.laysFinal RX0 "Belowhouse$Chains" "ahead" "[I", Cond.laysFinal RX0 "Belowhouse$Chains" "searched" "[I"], w ∈ Tz) w hw
theorem inX2 : ∀ w ∈ u_ws RX2 TX2 1, w ∈ Tz := fun w hw => (List.forall_mem_cons.mpr ⟨Tz_mem (tz1 (List.mem_of_getElem? (i := 91) rfl)) rfl, List.forall_mem_nil _⟩ : ∀ w ∈ [Cond.laysFinal RX2 "Belowhouse$Numbers" "ofHigh" "[I"], w ∈ Tz) w hw
theorem inX3 : ∀ w ∈ u_ws RX3 TX3 3, w ∈ Tz := fun w hw => (List.forall_mem_cons.mpr ⟨Tz_mem (tz1 (List.mem_of_getElem? (i := 46) rfl)) rfl, List.forall_mem_cons.mpr ⟨Tz_mem (tz1 (List.mem_of_getElem? (i := 48) rfl)) rfl, List.forall_mem_cons.mpr ⟨Tz_mem (tz1 (List.mem_of_getElem? (i := 50) rfl)) rfl, List.forall_mem_nil _⟩⟩⟩ : ∀ w ∈ [Cond.lays RX3 "Belowhouse$Order" "count" "I", Cond.laysFinal RX3 "Belowhouse$Order" "below" "[I", Cond.laysFinal RX3 "Belowhouse$Order" "values" "[I"], w ∈ Tz) w hw
theorem inX4 : ∀ w ∈ u_ws RX4 TX4 3, w ∈ Tz := fun w hw => (List.forall_mem_cons.mpr ⟨Tz_mem (tz1 (List.mem_of_getElem? (i := 77) rfl)) rfl, List.forall_mem_cons.mpr ⟨Tz_mem (tz1 (List.mem_of_getElem? (i := 79) rfl)) rfl, List.forall_mem_cons.mpr ⟨Tz_mem (tz1 (List.mem_of_getElem? (i := 81) rfl)) rfl, List.forall_mem_nil _⟩⟩⟩ : ∀ w ∈ [Cond.laysFinal RX4 "Belowhouse$RowTable" "waysTo" "[I", Cond.laysFinal RX4 "Belowhouse$RowTable" "waysOn" "[I", Cond.laysFinal RX4 "Belowhouse$RowTable" "line" "[I"], w ∈ Tz) w hw
theorem inX5 : ∀ w ∈ u_ws RX5 TX5 7, w ∈ Tz := fun w hw => (List.forall_mem_cons.mpr ⟨Tz_mem (tz1 (List.mem_of_getElem? (i := 115) rfl)) rfl, List.forall_mem_cons.mpr ⟨Tz_mem (tz1 (List.mem_of_getElem? (i := 117) rfl)) rfl, List.forall_mem_cons.mpr ⟨Tz_mem (tz1 (List.mem_of_getElem? (i := 119) rfl)) rfl, List.forall_mem_cons.mpr ⟨Tz_mem (tz1 (List.mem_of_getElem? (i := 121) rfl)) rfl, List.forall_mem_cons.mpr ⟨Tz_mem (tz1 (List.mem_of_getElem? (i := 123) rfl)) rfl, List.forall_mem_cons.mpr ⟨Tz_mem (tz1 (List.mem_of_getElem? (i := 125) rfl)) rfl, List.forall_mem_cons.mpr ⟨Tz_mem (tz1 (List.mem_of_getElem? (i := 127) rfl)) rfl, List.forall_mem_nil _⟩⟩⟩⟩⟩⟩⟩ : ∀ w ∈ [Cond.laysFinal RX5 "Belowhouse$Theorem" "tried" "LBelowhouse$Order;", Cond.laysFinal RX5 "Belowhouse$Theorem" "turned" "LBelowhouse$Order;", Cond.laysFinal RX5 "Belowhouse$Theorem" "table" "LBelowhouse$RowTable;", Cond.laysFinal RX5 "Belowhouse$Theorem" "triedTable" "LBelowhouse$RowTable;", Cond.laysFinal RX5 "Belowhouse$Theorem" "chains" "LBelowhouse$Chains;", Cond.laysFinal RX5 "Belowhouse$Theorem" "numbers" "LBelowhouse$Numbers;", Cond.laysFinal RX5 "Belowhouse$Theorem" "sizes" "[I"], w ∈ Tz) w hw
theorem inX6 : ∀ w ∈ u_ws RX6 TX6 6, w ∈ Tz := fun w hw => (List.forall_mem_cons.mpr ⟨Tz_mem (tz1 (List.mem_of_getElem? (i := 136) rfl)) rfl, List.forall_mem_cons.mpr ⟨Tz_mem (tz1 (List.mem_of_getElem? (i := 138) rfl)) rfl, List.forall_mem_cons.mpr ⟨Tz_mem (tz1 (List.mem_of_getElem? (i := 140) rfl)) rfl, List.forall_mem_cons.mpr ⟨Tz_mem (tz1 (List.mem_of_getElem? (i := 142) rfl)) rfl, List.forall_mem_cons.mpr ⟨Tz_mem (tz1 (List.mem_of_getElem? (i := 144) rfl)) rfl, List.forall_mem_cons.mpr ⟨Tz_mem (tz1 (List.mem_of_getElem? (i := 146) rfl)) rfl, List.forall_mem_nil _⟩⟩⟩⟩⟩⟩ : ∀ w ∈ [Cond.laysFinal RX6 "Belowhouse" "orders" "[LBelowhouse$Order;", Cond.laysFinal RX6 "Belowhouse" "made" "LBelowhouse$Order;", Cond.laysFinal RX6 "Belowhouse" "chains" "LBelowhouse$Chains;", Cond.laysFinal RX6 "Belowhouse" "table" "LBelowhouse$RowTable;", Cond.laysFinal RX6 "Belowhouse" "numbers" "LBelowhouse$Numbers;", Cond.laysFinal RX6 "Belowhouse" "theorem" "LBelowhouse$Theorem;"], w ∈ Tz) w hw
theorem inX7 : ∀ w ∈ u_ws RX7 TX7 8, w ∈ Tz := fun w hw => (List.forall_mem_cons.mpr ⟨Tz_mem (tz5 (List.mem_of_getElem? (i := 139) rfl)) rfl, List.forall_mem_cons.mpr ⟨Tz_mem (tz5 (List.mem_of_getElem? (i := 141) rfl)) rfl, List.forall_mem_cons.mpr ⟨Tz_mem (tz5 (List.mem_of_getElem? (i := 143) rfl)) rfl, List.forall_mem_cons.mpr ⟨Tz_mem (tz5 (List.mem_of_getElem? (i := 145) rfl)) rfl, List.forall_mem_cons.mpr ⟨Tz_mem (tz5 (List.mem_of_getElem? (i := 147) rfl)) rfl, List.forall_mem_cons.mpr ⟨Tz_mem (tz5 (List.mem_of_getElem? (i := 149) rfl)) rfl, List.forall_mem_cons.mpr ⟨Tz_mem (tz5 (List.mem_of_getElem? (i := 151) rfl)) rfl, List.forall_mem_cons.mpr ⟨Tz_mem (tz5 (List.mem_of_getElem? (i := 153) rfl)) rfl, List.forall_mem_nil _⟩⟩⟩⟩⟩⟩⟩⟩ : ∀ w ∈ [Cond.laysFinal RX7 "BelowhouseModel" "things" "[I", Cond.laysFinal RX7 "BelowhouseModel" "values" "[[I", Cond.laysFinal RX7 "BelowhouseModel" "below" "[[[Z", Cond.lays RX7 "BelowhouseModel" "code" "I", Cond.laysFinal RX7 "BelowhouseModel" "ways" "[I", Cond.laysFinal RX7 "BelowhouseModel" "parts" "[I", Cond.laysFinal RX7 "BelowhouseModel" "line" "[I", Cond.laysFinal RX7 "BelowhouseModel" "lows" "[I"], w ∈ Tz) w hw
