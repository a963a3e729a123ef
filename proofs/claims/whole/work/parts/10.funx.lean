def f_X6_orderAt (M : Mem) (x1 : Int32) : Option ((String ⊕ Nat) × Mem) := if x1 < 0 then some (.inl eI, M) else if x1 < 4 then chk (inb x1 4) (some (.inr (2 + 3 * x1.toNatClampNeg), M)) else some (.inl eI, M)
def rm_X6_orderAt : Room := { frames := 6, cells := 1, slots := 6, locals := 100 }
def f_X6_refuseOddValue (M : Mem) (x0 : Int32) : Option ((String ⊕ Unit) × Mem) := if x0 < ((-1000)) then some (.inl eA, M) else if x0 ≤ 1000 then some (.inr (), M) else some (.inl eA, M)
def rm_X6_refuseOddValue : Room := { frames := 6, cells := 1, slots := 6, locals := 100 }
def f_X6_add (M : Mem) (x1 : Int32) (x2 : Int32) : Option ((String ⊕ Int32) × Mem) := bd (f_X6_orderAt M x1) (fun z2 => cx z2 (fun v2 _ => chk (decide (kd v2 = 2)) (bd (f_X6_refuseOddValue z2.2 x2) (fun z7 => cx z7 (fun v7 _ => if (z7.2 v2 0) < 9 then bd (f_X3_append z7.2 v2 x2) (fun z31 => some (.inr z31.1, z31.2)) else some (.inl eS, z7.2))))))
def rm_X6_add : Room := { frames := 7, cells := 3, slots := 18, locals := 121 }
def f_X6_isSound (M : Mem) (x1 : Int32) : Option ((String ⊕ Int32) × Mem) := bd (f_X6_orderAt M x1) (fun z6 => cx z6 (fun v6 _ => chk (decide (kd v6 = 2)) (bd (f_X5_holdsFor z6.2 v6) (fun z9 => chk (isb z9.1) (some (.inr z9.1, z9.2))))))
def rm_X6_isSound : Room := { frames := 18, cells := 1, slots := 6, locals := 446 }
def f_X6_joinInto (M : Mem) (x1 : Int32) (x2 : Int32) (x3 : Int32) (x4 : Int32) : Option ((String ⊕ Nat) × Mem) := bd (f_X6_orderAt M x1) (fun z2 => cx z2 (fun v2 _ => chk (decide (kd v2 = 2)) (bd (f_X6_orderAt z2.2 x2) (fun z9 => cx z9 (fun v9 _ => chk (decide (kd v9 = 2)) (bd (f_X6_orderAt z9.2 x3) (fun z16 => cx z16 (fun v16 _ => chk (decide (kd v16 = 2)) (if ((z16.2 v2 0) + (z16.2 v9 0)) ≤ 9 then bd (f_X3_becomeJoined z16.2 14 v2 v9 x4) (fun z58 => bd (f_X3_become z58 v16 14) (fun z67 => some (.inr (v16), z67))) else some (.inl eS, z16.2))))))))))
def rm_X6_joinInto : Room := { frames := 7, cells := 4, slots := 24, locals := 121 }
def f_X6_above (M : Mem) (x1 : Int32) (x2 : Int32) (x3 : Int32) : Option ((String ⊕ Int32) × Mem) := bd (f_X6_joinInto M x1 x2 x3 1) (fun z5 => cx z5 (fun v5 _ => chk (decide (kd v5 = 2)) (bd (f_X3_pairCount z5.2 v5) (fun z8 => some (.inr z8, z5.2)))))
def rm_X6_above : Room := { frames := 8, cells := 4, slots := 24, locals := 148 }
def f_X6_aparts (M : Mem) (x1 : Int32) : Option ((String ⊕ Int32) × Mem) := bd (f_X6_orderAt M x1) (fun z2 => cx z2 (fun v2 _ => chk (decide (kd v2 = 2)) (bd (f_X0_apartCount z2.2 v2) (fun z5 => some (.inr z5, z2.2)))))
def rm_X6_aparts : Room := { frames := 7, cells := 1, slots := 6, locals := 121 }
def f_X6_orderWith (M : Mem) (x1 : Int32) (x2 : Int32) : Option ((String ⊕ Nat) × Mem) := bd (f_X6_orderAt M x1) (fun z2 => cx z2 (fun v2 _ => chk (decide (kd v2 = 2)) (bd (f_X3_hasThing z2.2 v2 x2) (fun z8 => if z8 = 0 then some (.inl eI, z2.2) else some (.inr (v2), z2.2)))))
def rm_X6_orderWith : Room := { frames := 7, cells := 2, slots := 12, locals := 121 }
def f_X6_undone (M : Mem) (x1 : Int32) (x2 : Int32) : Option ((String ⊕ Int32) × Mem) := bd (f_X6_orderWith M x1 x2) (fun z7 => cx z7 (fun v7 _ => chk (decide (kd v7 = 2)) (bd (f_X2_undoSums z7.2 24 v7 x2) (fun z11 => some (.inr z11.1, z11.2)))))
def rm_X6_undone : Room := { frames := 8, cells := 2, slots := 12, locals := 144 }
def f_X6_value (M : Mem) (x1 : Int32) (x2 : Int32) : Option ((String ⊕ Int32) × Mem) := bd (f_X6_orderWith M x1 x2) (fun z3 => cx z3 (fun v3 _ => chk (decide (kd v3 = 2)) (chk (inb x2 9) (some (.inr (z3.2 (v3 + 2) x2.toNatClampNeg), z3.2)))))
def rm_X6_value : Room := { frames := 8, cells := 2, slots := 12, locals := 144 }
def f_X6_orderWithSet (M : Mem) (x1 : Int32) (x2 : Int32) : Option ((String ⊕ Nat) × Mem) := bd (f_X6_orderAt M x1) (fun z2 => cx z2 (fun v2 _ => chk (decide (kd v2 = 2)) (if x2 < 0 then some (.inl eA, z2.2) else bd (f_X3_setLimit z2.2 v2) (fun z12 => if x2 < z12 then some (.inr (v2), z2.2) else some (.inl eA, z2.2)))))
def rm_X6_orderWithSet : Room := { frames := 7, cells := 2, slots := 12, locals := 121 }
def f_X6_tops (M : Mem) (x1 : Int32) (x2 : Int32) : Option ((String ⊕ Int32) × Mem) := bd (f_X6_orderWithSet M x1 x2) (fun z3 => cx z3 (fun v3 _ => chk (decide (kd v3 = 2)) (bd (f_X3_isClosedBelow z3.2 v3 x2) (fun z9 => if z9 = 0 then some (.inr ((-9)), z3.2) else bd (f_X3_greatestOf z3.2 v3 x2) (fun z17 => some (.inr z17, z3.2))))))
def rm_X6_tops : Room := { frames := 8, cells := 2, slots := 12, locals := 144 }
def f_X6_rows (M : Mem) (x1 : Int32) : Option ((String ⊕ Int32) × Mem) := bd (f_X6_orderAt M x1) (fun z6 => cx z6 (fun v6 _ => chk (decide (kd v6 = 2)) (bd (f_X4_count z6.2 20 v6) (fun z9 => some (.inr z9.1, z9.2)))))
def rm_X6_rows : Room := { frames := 7, cells := 1, slots := 6, locals := 121 }
def f_X6_layOutRow (M : Mem) (q1 : Nat) (x2 : Int32) : Option ((String ⊕ Unit) × Mem) := bd (f_X4_fill M 20 q1) (fun z5 => if x2 < 0 then some (.inl eI, z5.2) else if x2 < z5.1 then bd (f_X4_layOut z5.2 20 q1 x2) (fun z35 => some (.inr (), z35)) else some (.inl eI, z5.2))
def rm_X6_layOutRow : Room := { frames := 6, cells := 1, slots := 6, locals := 100 }
def f_X6_sets (M : Mem) (x1 : Int32) : Option ((String ⊕ Int32) × Mem) := bd (f_X6_orderAt M x1) (fun z2 => cx z2 (fun v2 _ => chk (decide (kd v2 = 2)) (bd (f_X1_count z2.2 v2) (fun z5 => some (.inr z5, z2.2)))))
def rm_X6_sets : Room := { frames := 7, cells := 1, slots := 6, locals := 121 }
def f_X6_orderWithBoth (M : Mem) (x1 : Int32) (x2 : Int32) (x3 : Int32) : Option ((String ⊕ Nat) × Mem) := bd (f_X6_orderWith M x1 x2) (fun z3 => cx z3 (fun v3 _ => chk (decide (kd v3 = 2)) (bd (f_X3_hasThing z3.2 v3 x3) (fun z11 => if z11 = 0 then some (.inl eI, z3.2) else some (.inr (v3), z3.2)))))
def rm_X6_orderWithBoth : Room := { frames := 8, cells := 3, slots := 18, locals := 144 }
def f_X6_ends (M : Mem) (x1 : Int32) (x2 : Int32) : Option ((String ⊕ Int32) × Mem) := bd (f_X6_orderAt M x1) (fun z2 => cx z2 (fun v2 _ => chk (decide (kd v2 = 2)) (if x2 = 0 then bd (f_X3_all z2.2 v2) (fun z23 => bd (f_X3_leastOf z2.2 v2 z23) (fun z26 => some (.inr z26, z2.2))) else bd (f_X3_all z2.2 v2) (fun z12 => bd (f_X3_greatestOf z2.2 v2 z12) (fun z15 => some (.inr z15, z2.2))))))
def rm_X6_ends : Room := { frames := 7, cells := 1, slots := 6, locals := 121 }
def f_X6_refuseOddMany (M : Mem) (x0 : Int32) : Option ((String ⊕ Unit) × Mem) := if x0 < 0 then some (.inl eA, M) else if x0 ≤ 9 then some (.inr (), M) else some (.inl eA, M)
def rm_X6_refuseOddMany : Room := { frames := 6, cells := 1, slots := 6, locals := 100 }
def f_X6_lay (M : Mem) (x1 : Int32) (x2 : Int32) : Option ((String ⊕ Int32) × Mem) := bd (f_X6_orderAt M x1) (fun z2 => cx z2 (fun v2 _ => chk (decide (kd v2 = 2)) (bd (f_X6_refuseOddMany z2.2 x2) (fun z7 => cx z7 (fun v7 _ => bd (some (z7.2 v2 0)) (fun v14 => bd (f_X3_clearTo z7.2 v2 x2) (fun z18 => some (.inr v14, z18))))))))
def rm_X6_lay : Room := { frames := 7, cells := 2, slots := 12, locals := 121 }
def f_X6_areSound (M : Mem) (x1 : Int32) (x2 : Int32) : Option ((String ⊕ Int32) × Mem) := bd (f_X6_orderAt M x1) (fun z2 => cx z2 (fun v2 _ => chk (decide (kd v2 = 2)) (bd (f_X6_orderAt z2.2 x2) (fun z8 => cx z8 (fun v8 _ => chk (decide (kd v8 = 2)) (if 9 < ((z8.2 v2 0) + (z8.2 v8 0)) then some (.inr 1, z8.2) else bd (f_X5_holdsForBoth z8.2 v2 v8) (fun z35 => if z35.1 = 0 then some (.inr 0, z35.2) else some (.inr 1, z35.2))))))))
def rm_X6_areSound : Room := { frames := 7, cells := 2, slots := 12, locals := 132 }
def f_X6_keep (M : Mem) (x1 : Int32) (x2 : Int32) : Option ((String ⊕ Int32) × Mem) := bd (f_X6_orderWithSet M x1 x2) (fun z3 => cx z3 (fun v3 _ => chk (decide (kd v3 = 2)) (bd (some (z3.2 v3 0)) (fun v11 => bd (f_X3_retain z3.2 v3 x2) (fun z15 => some (.inr (v11 - (z15 v3 0)), z15))))))
def rm_X6_keep : Room := { frames := 8, cells := 2, slots := 12, locals := 144 }
def f_X6_fewestChains (M : Mem) (x1 : Int32) : Option ((String ⊕ Int32) × Mem) := bd (f_X6_orderAt M x1) (fun z6 => cx z6 (fun v6 _ => chk (decide (kd v6 = 2)) (bd (f_X0_chainCover z6.2 17 v6) (fun z9 => some (.inr z9.1, z9.2)))))
def rm_X6_fewestChains : Room := { frames := 16, cells := 1, slots := 6, locals := 404 }
def f_X6_beside (M : Mem) (x1 : Int32) (x2 : Int32) (x3 : Int32) : Option ((String ⊕ Int32) × Mem) := bd (f_X6_joinInto M x1 x2 x3 0) (fun z5 => cx z5 (fun v5 _ => chk (decide (kd v5 = 2)) (some (.inr (z5.2 v5 0), z5.2))))
def rm_X6_beside : Room := { frames := 8, cells := 4, slots := 24, locals := 148 }
def f_X6_isSame (M : Mem) (x1 : Int32) (x2 : Int32) : Option ((String ⊕ Int32) × Mem) := bd (f_X6_orderAt M x1) (fun z2 => cx z2 (fun v2 _ => chk (decide (kd v2 = 2)) (bd (f_X6_orderAt z2.2 x2) (fun z8 => cx z8 (fun v8 _ => chk (decide (kd v8 = 2)) (bd (f_X3_hasPairsOf z8.2 v2 v8) (fun z16 => chk (isb z16) (some (.inr z16, z8.2)))))))))
def rm_X6_isSame : Room := { frames := 7, cells := 2, slots := 12, locals := 121 }
def f_X6_setAt (M : Mem) (x1 : Int32) (x2 : Int32) : Option ((String ⊕ Int32) × Mem) := bd (f_X6_orderAt M x1) (fun z2 => cx z2 (fun v2 _ => chk (decide (kd v2 = 2)) (bd (f_X1_findAt z2.2 v2 x2) (fun z6 => if z6 = ((-1)) then some (.inl eI, z2.2) else some (.inr z6, z2.2)))))
def rm_X6_setAt : Room := { frames := 7, cells := 2, slots := 12, locals := 121 }
def f_X6_straighten (M : Mem) (x1 : Int32) (x2 : Int32) : Option ((String ⊕ Int32) × Mem) := bd (f_X6_orderAt M x1) (fun z2 => cx z2 (fun v2 _ => chk (decide (kd v2 = 2)) (bd (f_X6_layOutRow z2.2 v2 x2) (fun z9 => cx z9 (fun v9 _ => bd (f_X3_pairCount z9.2 v2) (fun z13 => bd (f_X3_standAs z9.2 v2 (20 + 3)) (fun z26 => bd (f_X3_pairCount z26 v2) (fun z30 => some (.inr (z30 - z13), z26)))))))))
def rm_X6_straighten : Room := { frames := 7, cells := 2, slots := 12, locals := 123 }
def f_X6_things (M : Mem) (x1 : Int32) : Option ((String ⊕ Int32) × Mem) := bd (f_X6_orderAt M x1) (fun z2 => cx z2 (fun v2 _ => chk (decide (kd v2 = 2)) (some (.inr (z2.2 v2 0), z2.2))))
def rm_X6_things : Room := { frames := 7, cells := 1, slots := 6, locals := 121 }
def f_X6_setsOf (M : Mem) (x1 : Int32) (x2 : Int32) : Option ((String ⊕ Int32) × Mem) := bd (f_X6_orderAt M x1) (fun z2 => cx z2 (fun v2 _ => chk (decide (kd v2 = 2)) (bd (f_X1_countOfSize z2.2 v2 x2) (fun z6 => some (.inr z6, z2.2)))))
def rm_X6_setsOf : Room := { frames := 7, cells := 1, slots := 6, locals := 121 }
def f_X6_inner (M : Mem) (x1 : Int32) (x2 : Int32) : Option ((String ⊕ Int32) × Mem) := bd (f_X6_orderWithSet M x1 x2) (fun z3 => cx z3 (fun v3 _ => chk (decide (kd v3 = 2)) (bd (f_X3_pared z3.2 v3 x2) (fun z7 => some (.inr z7, z3.2)))))
def rm_X6_inner : Room := { frames := 8, cells := 2, slots := 12, locals := 144 }
def f_X6_rowsWith (M : Mem) (x1 : Int32) (x2 : Int32) (x3 : Int32) : Option ((String ⊕ Int32) × Mem) := bd (f_X6_orderWithBoth M x1 x2 x3) (fun z4 => cx z4 (fun v4 _ => chk (decide (kd v4 = 2)) (bd (f_X4_fill z4.2 20 v4) (fun z15 => bd (f_X4_countAhead z15.2 20 v4 x2 x3) (fun z27 => some (.inr z27, z15.2))))))
def rm_X6_rowsWith : Room := { frames := 9, cells := 3, slots := 18, locals := 168 }
def f_X6_chain (M : Mem) (x1 : Int32) (x2 : Int32) : Option ((String ⊕ Int32) × Mem) := bd (f_X6_orderAt M x1) (fun z2 => cx z2 (fun v2 _ => chk (decide (kd v2 = 2)) (bd (f_X6_refuseOddMany z2.2 x2) (fun z7 => cx z7 (fun v7 _ => bd (f_X3_clearTo z7.2 v2 x2) (fun z12 => bd (f_X3_lineUp z12 v2) (fun z16 => bd (f_X3_pairCount z16 v2) (fun z20 => some (.inr z20, z16)))))))))
def rm_X6_chain : Room := { frames := 7, cells := 2, slots := 12, locals := 121 }
def f_X6_copy (M : Mem) (x1 : Int32) (x2 : Int32) : Option ((String ⊕ Int32) × Mem) := bd (f_X6_orderAt M x1) (fun z2 => cx z2 (fun v2 _ => chk (decide (kd v2 = 2)) (bd (f_X6_orderAt z2.2 x2) (fun z8 => cx z8 (fun v8 _ => chk (decide (kd v8 = 2)) (bd (f_X3_become z8.2 v8 v2) (fun z16 => some (.inr (z16 v8 0), z16))))))))
def rm_X6_copy : Room := { frames := 7, cells := 2, slots := 12, locals := 121 }
def f_X6_isChain (M : Mem) (x1 : Int32) (x2 : Int32) : Option ((String ⊕ Int32) × Mem) := bd (f_X6_orderWithSet M x1 x2) (fun z3 => cx z3 (fun v3 _ => chk (decide (kd v3 = 2)) (bd (f_X3_isInLine z3.2 v3 x2) (fun z7 => chk (isb z7) (some (.inr z7, z3.2))))))
def rm_X6_isChain : Room := { frames := 8, cells := 2, slots := 12, locals := 144 }
def f_X6_shared (M : Mem) (x1 : Int32) (x2 : Int32) : Option ((String ⊕ Int32) × Mem) := bd (f_X6_orderAt M x1) (fun z2 => cx z2 (fun v2 _ => chk (decide (kd v2 = 2)) (bd (f_X6_orderAt z2.2 x2) (fun z8 => cx z8 (fun v8 _ => chk (decide (kd v8 = 2)) (if (z8.2 v2 0) = (z8.2 v8 0) then bd (f_X1_countShared z8.2 v2 v8) (fun z28 => some (.inr z28, z8.2)) else some (.inr ((-9)), z8.2)))))))
def rm_X6_shared : Room := { frames := 7, cells := 2, slots := 12, locals := 121 }
def f_X6_upper (M : Mem) (x1 : Int32) (x2 : Int32) : Option ((String ⊕ Int32) × Mem) := bd (f_X6_orderWith M x1 x2) (fun z3 => cx z3 (fun v3 _ => chk (decide (kd v3 = 2)) (bd (f_X3_aboveOf z3.2 v3 x2) (fun z7 => some (.inr z7, z3.2)))))
def rm_X6_upper : Room := { frames := 8, cells := 2, slots := 12, locals := 144 }
def f_X6_meanPlace (M : Mem) (x1 : Int32) (x2 : Int32) : Option ((String ⊕ UInt64) × Mem) := bd (f_X6_orderWith M x1 x2) (fun z3 => cx z3 (fun v3 _ => chk (decide (kd v3 = 2)) (bd (f_X4_fill z3.2 20 v3) (fun z12 => bd (f_X6_atLeastOne z12.1) (fun z15 => bd (f_X4_sumOfPlaces z12.2 20 v3 x2) (fun z26 => chk (nn64 (FP.ddiv (FP.i2d z26) (FP.i2d z15))) (some (.inr (FP.ddiv (FP.i2d z26) (FP.i2d z15)), z12.2))))))))
def rm_X6_meanPlace : Room := { frames := 8, cells := 2, slots := 12, locals := 144 }
def f_X6_pairs (M : Mem) (x1 : Int32) : Option ((String ⊕ Int32) × Mem) := bd (f_X6_orderAt M x1) (fun z2 => cx z2 (fun v2 _ => chk (decide (kd v2 = 2)) (bd (f_X3_pairCount z2.2 v2) (fun z5 => some (.inr z5, z2.2)))))
def rm_X6_pairs : Room := { frames := 7, cells := 1, slots := 6, locals := 121 }
def f_X6_nextRow (M : Mem) (x1 : Int32) (x2 : Int32) : Option ((String ⊕ Int32) × Mem) := bd (f_X6_orderAt M x1) (fun z2 => cx z2 (fun v2 _ => chk (decide (kd v2 = 2)) (bd (f_X4_findPlace z2.2 20 v2 x2) (fun z12 => if z12.1 = ((-1)) then some (.inl eA, z12.2) else bd (f_X4_count z12.2 20 v2) (fun z42 => if (z12.1 + 1) < z42.1 then bd (f_X6_layOutRow z42.2 v2 (z12.1 + 1)) (fun z56 => cx z56 (fun v56 _ => bd (f_X4_lineAsNumber z56.2 20 v2) (fun z64 => some (.inr z64, z56.2)))) else some (.inr ((-1)), z42.2))))))
def rm_X6_nextRow : Room := { frames := 7, cells := 3, slots := 18, locals := 123 }
def f_X6_sign (M : Mem) (x1 : Int32) (x2 : Int32) (x3 : Int32) : Option ((String ⊕ Int32) × Mem) := bd (f_X6_orderWithBoth M x1 x2 x3) (fun z4 => cx z4 (fun v4 _ => chk (decide (kd v4 = 2)) (if x2 = x3 then some (.inr 61, z4.2) else bd (f_X3_isBelow z4.2 v4 x2 x3) (fun z21 => if z21 = 0 then bd (f_X3_isBelow z4.2 v4 x3 x2) (fun z34 => if z34 = 0 then some (.inr 124, z4.2) else some (.inr 62, z4.2)) else some (.inr 60, z4.2)))))
def rm_X6_sign : Room := { frames := 9, cells := 3, slots := 18, locals := 168 }
def f_X6_sum (M : Mem) (x1 : Int32) (x2 : Int32) : Option ((String ⊕ Int32) × Mem) := bd (f_X6_orderWith M x1 x2) (fun z3 => cx z3 (fun v3 _ => chk (decide (kd v3 = 2)) (bd (f_X3_sumUpTo z3.2 v3 x2) (fun z7 => some (.inr z7, z3.2)))))
def rm_X6_sum : Room := { frames := 8, cells := 2, slots := 12, locals := 144 }
def f_X6_put (M : Mem) (x1 : Int32) (x2 : Int32) (x3 : Int32) : Option ((String ⊕ Int32) × Mem) := bd (f_X6_orderWithBoth M x1 x2 x3) (fun z4 => cx z4 (fun v4 _ => chk (decide (kd v4 = 2)) (bd (f_X3_link z4.2 v4 x2 x3) (fun z9 => some (.inr z9.1, z9.2)))))
def rm_X6_put : Room := { frames := 9, cells := 3, slots := 18, locals := 168 }
def f_X6_near (M : Mem) (x1 : Int32) (x2 : Int32) (x3 : Int32) : Option ((String ⊕ Int32) × Mem) := bd (f_X6_orderWithSet M x1 x2) (fun z3 => cx z3 (fun v3 _ => chk (decide (kd v3 = 2)) (if x3 = 99 then bd (f_X3_isClosedBelow z3.2 v3 x2) (fun z94 => if z94 = 0 then bd (f_X1_firstBehind z3.2 v3 x2) (fun z107 => some (.inr z107, z3.2)) else some (.inr x2, z3.2)) else if x3 = 102 then bd (f_X3_isClosedBelow z3.2 v3 x2) (fun z74 => if z74 = 0 then bd (f_X1_lastAhead z3.2 v3 x2) (fun z87 => some (.inr z87, z3.2)) else some (.inr x2, z3.2)) else if x3 = 104 then bd (f_X1_firstBehind z3.2 v3 x2) (fun z114 => some (.inr z114, z3.2)) else if x3 = 108 then bd (f_X1_lastAhead z3.2 v3 x2) (fun z67 => some (.inr z67, z3.2)) else some (.inl eA, z3.2))))
def rm_X6_near : Room := { frames := 8, cells := 3, slots := 18, locals := 144 }
def f_X6_lower (M : Mem) (x1 : Int32) (x2 : Int32) : Option ((String ⊕ Int32) × Mem) := bd (f_X6_orderWith M x1 x2) (fun z3 => cx z3 (fun v3 _ => chk (decide (kd v3 = 2)) (chk (inb x2 9) (some (.inr (z3.2 (v3 + 1) x2.toNatClampNeg), z3.2)))))
def rm_X6_lower : Room := { frames := 8, cells := 2, slots := 12, locals := 144 }
def f_X6_meet (M : Mem) (x1 : Int32) (x2 : Int32) (x3 : Int32) : Option ((String ⊕ Int32) × Mem) := bd (f_X6_orderAt M x1) (fun z2 => cx z2 (fun v2 _ => chk (decide (kd v2 = 2)) (bd (f_X6_orderAt z2.2 x2) (fun z9 => cx z9 (fun v9 _ => chk (decide (kd v9 = 2)) (bd (f_X6_orderAt z9.2 x3) (fun z16 => cx z16 (fun v16 _ => chk (decide (kd v16 = 2)) (if (z16.2 v2 0) = (z16.2 v9 0) then bd (f_X3_becomeCommon z16.2 14 v2 v9) (fun z45 => bd (f_X3_become z45 v16 14) (fun z54 => bd (f_X3_pairCount z54 v16) (fun z59 => some (.inr z59, z54)))) else some (.inr ((-9)), z16.2))))))))))
def rm_X6_meet : Room := { frames := 7, cells := 3, slots := 18, locals := 121 }
def f_X6_widest (M : Mem) (x1 : Int32) : Option ((String ⊕ Int32) × Mem) := bd (f_X6_orderAt M x1) (fun z2 => cx z2 (fun v2 _ => chk (decide (kd v2 = 2)) (bd (f_X0_mostApart z2.2 v2) (fun z5 => some (.inr z5, z2.2)))))
def rm_X6_widest : Room := { frames := 7, cells := 1, slots := 6, locals := 121 }
def f_X6_longest (M : Mem) (x1 : Int32) : Option ((String ⊕ Int32) × Mem) := bd (f_X6_orderAt M x1) (fun z2 => cx z2 (fun v2 _ => chk (decide (kd v2 = 2)) (bd (f_X3_all z2.2 v2) (fun z8 => bd (f_X0_longestWithin z2.2 v2 z8) (fun z11 => some (.inr z11, z2.2))))))
def rm_X6_longest : Room := { frames := 7, cells := 1, slots := 6, locals := 121 }
def f_X6_fewestAparts (M : Mem) (x1 : Int32) : Option ((String ⊕ Int32) × Mem) := bd (f_X6_orderAt M x1) (fun z2 => cx z2 (fun v2 _ => chk (decide (kd v2 = 2)) (bd (f_X0_layerCount z2.2 v2) (fun z5 => some (.inr z5, z2.2)))))
def rm_X6_fewestAparts : Room := { frames := 7, cells := 1, slots := 6, locals := 121 }
def f_X6_rowAt (M : Mem) (x1 : Int32) (x2 : Int32) : Option ((String ⊕ Int32) × Mem) := bd (f_X6_orderAt M x1) (fun z2 => cx z2 (fun v2 _ => chk (decide (kd v2 = 2)) (bd (f_X6_layOutRow z2.2 v2 x2) (fun z9 => cx z9 (fun v9 _ => bd (f_X4_lineAsNumber z9.2 20 v2) (fun z17 => some (.inr z17, z9.2)))))))
def rm_X6_rowAt : Room := { frames := 7, cells := 2, slots := 12, locals := 123 }
def f_X6_rowPlace (M : Mem) (x1 : Int32) (x2 : Int32) : Option ((String ⊕ Int32) × Mem) := bd (f_X6_orderAt M x1) (fun z6 => cx z6 (fun v6 _ => chk (decide (kd v6 = 2)) (bd (f_X4_findPlace z6.2 20 v6 x2) (fun z10 => some (.inr z10.1, z10.2)))))
def rm_X6_rowPlace : Room := { frames := 7, cells := 1, slots := 6, locals := 121 }
def f_X6_rowsAt (M : Mem) (x1 : Int32) (x2 : Int32) (x3 : Int32) : Option ((String ⊕ Int32) × Mem) := bd (f_X6_orderWith M x1 x2) (fun z3 => cx z3 (fun v3 _ => chk (decide (kd v3 = 2)) (bd (f_X4_fill z3.2 20 v3) (fun z14 => bd (f_X4_countAtPlace z14.2 20 v3 x2 x3) (fun z26 => some (.inr z26, z14.2))))))
def rm_X6_rowsAt : Room := { frames := 8, cells := 2, slots := 12, locals := 144 }
def f_X6_nexts (M : Mem) (x1 : Int32) : Option ((String ⊕ Int32) × Mem) := bd (f_X6_orderAt M x1) (fun z2 => cx z2 (fun v2 _ => chk (decide (kd v2 = 2)) (bd (f_X3_nextCount z2.2 v2) (fun z5 => some (.inr z5, z2.2)))))
def rm_X6_nexts : Room := { frames := 7, cells := 1, slots := 6, locals := 121 }
def f_X6_turn (M : Mem) (x1 : Int32) : Option ((String ⊕ Int32) × Mem) := bd (f_X6_orderAt M x1) (fun z2 => cx z2 (fun v2 _ => chk (decide (kd v2 = 2)) (bd (f_X3_becomeTurned z2.2 14 v2) (fun z11 => bd (f_X3_become z11 v2 14) (fun z19 => bd (f_X3_pairCount z19 v2) (fun z23 => some (.inr z23, z19)))))))
def rm_X6_turn : Room := { frames := 7, cells := 1, slots := 6, locals := 121 }
def f_X6_share (M : Mem) (x1 : Int32) (x2 : Int32) (x3 : Int32) : Option ((String ⊕ UInt32) × Mem) := bd (f_X6_orderWithBoth M x1 x2 x3) (fun z4 => cx z4 (fun v4 _ => chk (decide (kd v4 = 2)) (bd (f_X4_fill z4.2 20 v4) (fun z15 => bd (f_X6_atLeastOne z15.1) (fun z18 => bd (f_X4_countAhead z15.2 20 v4 x2 x3) (fun z31 => chk (nn32 (FP.fdiv (FP.i2f z31) (FP.i2f z18))) (some (.inr (FP.fdiv (FP.i2f z31) (FP.i2f z18)), z15.2))))))))
def rm_X6_share : Room := { frames := 9, cells := 3, slots := 18, locals := 168 }
def f_X6_loose (M : Mem) (x1 : Int32) (x2 : Int32) (x3 : Int32) : Option ((String ⊕ Int32) × Mem) := bd (f_X6_orderWithBoth M x1 x2 x3) (fun z4 => cx z4 (fun v4 _ => chk (decide (kd v4 = 2)) (bd (f_X3_isNextBelow z4.2 v4 x2 x3) (fun z13 => if z13 = 0 then some (.inr ((-9)), z4.2) else bd (f_X3_cut z4.2 v4 x2 x3) (fun z26 => bd (f_X3_pairCount z26 v4) (fun z31 => some (.inr z31, z26)))))))
def rm_X6_loose : Room := { frames := 9, cells := 3, slots := 18, locals := 168 }
def f_X6_placeOf (M : Mem) (x1 : Int32) (x2 : Int32) : Option ((String ⊕ Int32) × Mem) := bd (f_X6_orderWithSet M x1 x2) (fun z3 => cx z3 (fun v3 _ => chk (decide (kd v3 = 2)) (bd (f_X3_isClosedBelow z3.2 v3 x2) (fun z9 => if z9 = 0 then some (.inr ((-1)), z3.2) else bd (f_X1_countAhead z3.2 v3 x2) (fun z17 => some (.inr z17, z3.2))))))
def rm_X6_placeOf : Room := { frames := 8, cells := 2, slots := 12, locals := 144 }
def f_X6_setValue (M : Mem) (x1 : Int32) (x2 : Int32) (x3 : Int32) : Option ((String ⊕ Int32) × Mem) := bd (f_X6_orderWith M x1 x2) (fun z3 => cx z3 (fun v3 _ => chk (decide (kd v3 = 2)) (bd (f_X6_refuseOddValue z3.2 x3) (fun z9 => cx z9 (fun v9 _ => chk (inb x2 9) (bd (some (z9.2 (v3 + 2) x2.toNatClampNeg)) (fun v19 => chk (inb x2 9) (bd (some (upM z9.2 (v3 + 2) x2.toNatClampNeg x3)) (fun M28 => some (.inr v19, M28))))))))))
def rm_X6_setValue : Room := { frames := 8, cells := 3, slots := 18, locals := 144 }
def f_X6_closed (M : Mem) (x1 : Int32) (x2 : Int32) : Option ((String ⊕ Int32) × Mem) := bd (f_X6_orderWithSet M x1 x2) (fun z3 => cx z3 (fun v3 _ => chk (decide (kd v3 = 2)) (bd (f_X3_filledUp z3.2 v3 x2) (fun z7 => some (.inr z7, z3.2)))))
def rm_X6_closed : Room := { frames := 8, cells := 2, slots := 12, locals := 144 }
def f_X6_drop (M : Mem) (x1 : Int32) (x2 : Int32) : Option ((String ⊕ Int32) × Mem) := bd (f_X6_orderWith M x1 x2) (fun z3 => cx z3 (fun v3 _ => chk (decide (kd v3 = 2)) (chk (inb x2 9) (bd (some (z3.2 (v3 + 2) x2.toNatClampNeg)) (fun v13 => bd (f_X3_all z3.2 v3) (fun z17 => bd (f_X3_retain z3.2 v3 (z17 &&& (((1 : Int32) <<< (x2 &&& 31)) ^^^ ((-1))))) (fun z26 => some (.inr v13, z26))))))))
def rm_X6_drop : Room := { frames := 8, cells := 2, slots := 12, locals := 144 }
def f_X6_level (M : Mem) (x1 : Int32) (x2 : Int32) : Option ((String ⊕ Int32) × Mem) := bd (f_X6_orderWith M x1 x2) (fun z3 => cx z3 (fun v3 _ => chk (decide (kd v3 = 2)) (chk (inb x2 9) (bd (f_X0_longestWithin z3.2 v3 (z3.2 (v3 + 1) x2.toNatClampNeg)) (fun z14 => some (.inr (z14 + 1), z3.2))))))
def rm_X6_level : Room := { frames := 8, cells := 2, slots := 12, locals := 144 }
def f_X6_number (M : Mem) (x1 : Int32) (x2 : Int32) (x3 : Int32) : Option ((String ⊕ Int32) × Mem) := bd (f_X6_orderWithBoth M x1 x2 x3) (fun z8 => cx z8 (fun v8 _ => chk (decide (kd v8 = 2)) (bd (f_X2_between z8.2 24 v8 x2 x3) (fun z13 => some (.inr z13.1, z13.2)))))
def rm_X6_number : Room := { frames := 9, cells := 3, slots := 18, locals := 168 }
def f_X6_isNext (M : Mem) (x1 : Int32) (x2 : Int32) (x3 : Int32) : Option ((String ⊕ Int32) × Mem) := bd (f_X6_orderWithBoth M x1 x2 x3) (fun z4 => cx z4 (fun v4 _ => chk (decide (kd v4 = 2)) (bd (f_X3_isNextBelow z4.2 v4 x2 x3) (fun z9 => chk (isb z9) (some (.inr z9, z4.2))))))
def rm_X6_isNext : Room := { frames := 9, cells := 3, slots := 18, locals := 168 }
def f_X6_isApart (M : Mem) (x1 : Int32) (x2 : Int32) : Option ((String ⊕ Int32) × Mem) := bd (f_X6_orderWithSet M x1 x2) (fun z3 => cx z3 (fun v3 _ => chk (decide (kd v3 = 2)) (bd (f_X3_isUnordered z3.2 v3 x2) (fun z7 => chk (isb z7) (some (.inr z7, z3.2))))))
def rm_X6_isApart : Room := { frames := 8, cells := 2, slots := 12, locals := 144 }
theorem k_X6_80 : LK RX6 80 yX3_append := Or.inl (Tz_mem (tz2 (List.mem_of_getElem? (i := 127) rfl)) rfl)
theorem k_X6_264 : LK RX6 264 yX5_holdsFor := Or.inl (Tz_mem (tz4 (List.mem_of_getElem? (i := 238) rfl)) rfl)
theorem k_X6_302 : LK RX6 302 yX3_becomeJoined := Or.inl (Tz_mem (tz3 (List.mem_of_getElem? (i := 43) rfl)) rfl)
theorem k_X6_132 : LK RX6 132 yX3_become := Or.inl (Tz_mem (tz3 (List.mem_of_getElem? (i := 20) rfl)) rfl)
theorem k_X6_66 : LK RX6 66 yX3_pairCount := Or.inl (Tz_mem (tz2 (List.mem_of_getElem? (i := 95) rfl)) rfl)
theorem k_X6_186 : LK RX6 186 yX0_apartCount := Or.inl (Tz_mem (tz3 (List.mem_of_getElem? (i := 235) rfl)) rfl)
theorem k_X6_281 : LK RX6 281 yX3_hasThing := Or.inl (Tz_mem (tz2 (List.mem_of_getElem? (i := 142) rfl)) rfl)
theorem k_X6_261 : LK RX6 261 yX2_undoSums := Or.inl (Tz_mem (tz4 (List.mem_of_getElem? (i := 225) rfl)) rfl)
theorem k_X6_286 : LK RX6 286 yX3_setLimit := Or.inl (Tz_mem (tz2 (List.mem_of_getElem? (i := 165) rfl)) rfl)
theorem k_X6_204 : LK RX6 204 yX3_isClosedBelow := Or.inl (Tz_mem (tz4 (List.mem_of_getElem? (i := 34) rfl)) rfl)
theorem k_X6_155 : LK RX6 155 yX3_greatestOf := Or.inl (Tz_mem (tz3 (List.mem_of_getElem? (i := 140) rfl)) rfl)
theorem k_X6_240 : LK RX6 240 yX4_fill := Or.inl (Tz_mem (tz2 (List.mem_of_getElem? (i := 224) rfl)) rfl)
theorem k_X6_297 : LK RX6 297 yX4_layOut := Or.inl (Tz_mem (tz2 (List.mem_of_getElem? (i := 235) rfl)) rfl)
theorem k_X6_158 : LK RX6 158 yX3_leastOf := Or.inl (Tz_mem (tz3 (List.mem_of_getElem? (i := 141) rfl)) rfl)
theorem k_X6_60 : LK RX6 60 yX3_clearTo := Or.inl (Tz_mem (tz2 (List.mem_of_getElem? (i := 80) rfl)) rfl)
theorem k_X6_267 : LK RX6 267 yX5_holdsForBoth := Or.inl (Tz_mem (tz5 (List.mem_of_getElem? (i := 100) rfl)) rfl)
theorem k_X6_95 : LK RX6 95 yX3_retain := Or.inl (Tz_mem (tz2 (List.mem_of_getElem? (i := 147) rfl)) rfl)
theorem k_X6_180 : LK RX6 180 yX0_chainCover := Or.inl (Tz_mem (tz3 (List.mem_of_getElem? (i := 207) rfl)) rfl)
theorem k_X6_161 : LK RX6 161 yX3_hasPairsOf := Or.inl (Tz_mem (tz3 (List.mem_of_getElem? (i := 159) rfl)) rfl)
theorem k_X6_196 : LK RX6 196 yX1_findAt := Or.inl (Tz_mem (tz4 (List.mem_of_getElem? (i := 23) rfl)) rfl)
theorem k_X6_124 : LK RX6 124 yX3_standAs := Or.inl (Tz_mem (tz3 (List.mem_of_getElem? (i := 3) rfl)) rfl)
theorem k_X6_193 : LK RX6 193 yX1_countOfSize := Or.inl (Tz_mem (tz4 (List.mem_of_getElem? (i := 12) rfl)) rfl)
theorem k_X6_224 : LK RX6 224 yX3_pared := Or.inl (Tz_mem (tz4 (List.mem_of_getElem? (i := 73) rfl)) rfl)
theorem k_X6_243 : LK RX6 243 yX4_countAhead := Or.inl (Tz_mem (tz4 (List.mem_of_getElem? (i := 143) rfl)) rfl)
theorem k_X6_63 : LK RX6 63 yX3_lineUp := Or.inl (Tz_mem (tz2 (List.mem_of_getElem? (i := 91) rfl)) rfl)
theorem k_X6_165 : LK RX6 165 yX3_isInLine := Or.inl (Tz_mem (tz3 (List.mem_of_getElem? (i := 170) rfl)) rfl)
theorem k_X6_227 : LK RX6 227 yX1_countShared := Or.inl (Tz_mem (tz4 (List.mem_of_getElem? (i := 91) rfl)) rfl)
theorem k_X6_152 : LK RX6 152 yX3_aboveOf := Or.inl (Tz_mem (tz3 (List.mem_of_getElem? (i := 132) rfl)) rfl)
theorem k_X6_249 : LK RX6 249 yX6_atLeastOne := Or.inl (Tz_mem (tz4 (List.mem_of_getElem? (i := 171) rfl)) rfl)
theorem k_X6_252 : LK RX6 252 yX4_sumOfPlaces := Or.inl (Tz_mem (tz4 (List.mem_of_getElem? (i := 175) rfl)) rfl)
theorem k_X6_235 : LK RX6 235 yX4_findPlace := Or.inl (Tz_mem (tz4 (List.mem_of_getElem? (i := 119) rfl)) rfl)
theorem k_X6_232 : LK RX6 232 yX4_lineAsNumber := Or.inl (Tz_mem (tz4 (List.mem_of_getElem? (i := 108) rfl)) rfl)
theorem k_X6_146 : LK RX6 146 yX3_isBelow := Or.inl (Tz_mem (tz3 (List.mem_of_getElem? (i := 110) rfl)) rfl)
theorem k_X6_255 : LK RX6 255 yX3_sumUpTo := Or.inl (Tz_mem (tz4 (List.mem_of_getElem? (i := 193) rfl)) rfl)
theorem k_X6_105 : LK RX6 105 yX3_link := Or.inl (Tz_mem (tz2 (List.mem_of_getElem? (i := 185) rfl)) rfl)
theorem k_X6_213 : LK RX6 213 yX1_firstBehind := Or.inl (Tz_mem (tz4 (List.mem_of_getElem? (i := 51) rfl)) rfl)
theorem k_X6_210 : LK RX6 210 yX1_lastAhead := Or.inl (Tz_mem (tz4 (List.mem_of_getElem? (i := 48) rfl)) rfl)
theorem k_X6_139 : LK RX6 139 yX3_becomeCommon := Or.inl (Tz_mem (tz3 (List.mem_of_getElem? (i := 65) rfl)) rfl)
theorem k_X6_183 : LK RX6 183 yX0_layerCount := Or.inl (Tz_mem (tz3 (List.mem_of_getElem? (i := 223) rfl)) rfl)
theorem k_X6_246 : LK RX6 246 yX4_countAtPlace := Or.inl (Tz_mem (tz4 (List.mem_of_getElem? (i := 159) rfl)) rfl)
theorem k_X6_143 : LK RX6 143 yX3_nextCount := Or.inl (Tz_mem (tz3 (List.mem_of_getElem? (i := 91) rfl)) rfl)
theorem k_X6_128 : LK RX6 128 yX3_becomeTurned := Or.inl (Tz_mem (tz3 (List.mem_of_getElem? (i := 15) rfl)) rfl)
theorem k_X6_109 : LK RX6 109 yX3_isNextBelow := Or.inl (Tz_mem (tz2 (List.mem_of_getElem? (i := 201) rfl)) rfl)
theorem k_X6_113 : LK RX6 113 yX3_cut := Or.inl (Tz_mem (tz2 (List.mem_of_getElem? (i := 209) rfl)) rfl)
theorem k_X6_207 : LK RX6 207 yX1_countAhead := Or.inl (Tz_mem (tz4 (List.mem_of_getElem? (i := 35) rfl)) rfl)
theorem k_X6_221 : LK RX6 221 yX3_filledUp := Or.inl (Tz_mem (tz4 (List.mem_of_getElem? (i := 62) rfl)) rfl)
theorem k_X6_258 : LK RX6 258 yX2_between := Or.inl (Tz_mem (tz4 (List.mem_of_getElem? (i := 204) rfl)) rfl)
theorem k_X6_169 : LK RX6 169 yX3_isUnordered := Or.inl (Tz_mem (tz3 (List.mem_of_getElem? (i := 178) rfl)) rfl)
theorem kf_X6_44 : Cond.fieldLink RX6 44 RX6 "theorem" "LBelowhouse$Theorem;" ∈ Tz := Tz_mem (tz1 (List.mem_of_getElem? (i := 135) rfl)) rfl
theorem kf_X6_16 : Cond.fieldLink RX6 16 RX6 "made" "LBelowhouse$Order;" ∈ Tz := Tz_mem (tz1 (List.mem_of_getElem? (i := 131) rfl)) rfl
theorem kf_X6_37 : Cond.fieldLink RX6 37 RX6 "numbers" "LBelowhouse$Numbers;" ∈ Tz := Tz_mem (tz1 (List.mem_of_getElem? (i := 134) rfl)) rfl
theorem kf_X6_23 : Cond.fieldLink RX6 23 RX6 "chains" "LBelowhouse$Chains;" ∈ Tz := Tz_mem (tz1 (List.mem_of_getElem? (i := 132) rfl)) rfl
theorem kf_X6_121 : Cond.fieldLink RX6 121 RX4 "line" "[I" ∈ Tz := Tz_mem (tz1 (List.mem_of_getElem? (i := 76) rfl)) rfl
theorem ky_X6_orderAt : CY yX6_orderAt cX6_orderAt 2 (some (.object "Belowhouse$Order")) 1 := ⟨Tz_mem (tz1 (List.mem_of_getElem? (i := 232) rfl)) rfl, Tz_mem (tz1 (List.mem_of_getElem? (i := 1) rfl)) rfl, ⟨by decide +kernel, by decide +kernel⟩, by decide +kernel⟩
theorem ky_X6_refuseOddValue : CY yX6_refuseOddValue cX6_refuseOddValue 1 none 1 := ⟨Tz_mem (tz2 (List.mem_of_getElem? (i := 109) rfl)) rfl, Tz_mem (tz1 (List.mem_of_getElem? (i := 1) rfl)) rfl, ⟨by decide +kernel, by decide +kernel⟩, by decide +kernel⟩
theorem ky_X3_append : CY yX3_append cX3_append 3 (some .int) 1 := ⟨Tz_mem (tz2 (List.mem_of_getElem? (i := 130) rfl)) rfl, Tz_mem (tz1 (List.mem_of_getElem? (i := 2) rfl)) rfl, ⟨by decide +kernel, by decide +kernel⟩, by decide +kernel⟩
theorem ky_X5_holdsFor : CY yX5_holdsFor cX5_holdsFor 2 (some .boolean) 1 := ⟨Tz_mem (tz5 (List.mem_of_getElem? (i := 1) rfl)) rfl, Tz_mem (tz1 (List.mem_of_getElem? (i := 6) rfl)) rfl, ⟨by decide +kernel, by decide +kernel⟩, by decide +kernel⟩
theorem ky_X6_joinInto : CY yX6_joinInto cX6_joinInto 8 (some (.object "Belowhouse$Order")) 4 := ⟨Tz_mem (tz3 (List.mem_of_getElem? (i := 41) rfl)) rfl, Tz_mem (tz1 (List.mem_of_getElem? (i := 1) rfl)) rfl, ⟨by decide +kernel, by decide +kernel⟩, by decide +kernel⟩
theorem ky_X6_orderWith : CY yX6_orderWith cX6_orderWith 4 (some (.object "Belowhouse$Order")) 2 := ⟨Tz_mem (tz2 (List.mem_of_getElem? (i := 141) rfl)) rfl, Tz_mem (tz1 (List.mem_of_getElem? (i := 1) rfl)) rfl, ⟨by decide +kernel, by decide +kernel⟩, by decide +kernel⟩
theorem ky_X6_orderWithSet : CY yX6_orderWithSet cX6_orderWithSet 4 (some (.object "Belowhouse$Order")) 2 := ⟨Tz_mem (tz2 (List.mem_of_getElem? (i := 164) rfl)) rfl, Tz_mem (tz1 (List.mem_of_getElem? (i := 1) rfl)) rfl, ⟨by decide +kernel, by decide +kernel⟩, by decide +kernel⟩
theorem ky_X4_layOut : CY yX4_layOut cX4_layOut 7 none 2 := ⟨Tz_mem (tz2 (List.mem_of_getElem? (i := 238) rfl)) rfl, Tz_mem (tz1 (List.mem_of_getElem? (i := 4) rfl)) rfl, ⟨by decide +kernel, by decide +kernel⟩, by decide +kernel⟩
theorem ky_X6_refuseOddMany : CY yX6_refuseOddMany cX6_refuseOddMany 1 none 1 := ⟨Tz_mem (tz2 (List.mem_of_getElem? (i := 63) rfl)) rfl, Tz_mem (tz1 (List.mem_of_getElem? (i := 1) rfl)) rfl, ⟨by decide +kernel, by decide +kernel⟩, by decide +kernel⟩
theorem ky_X5_holdsForBoth : CY yX5_holdsForBoth cX5_holdsForBoth 3 (some .boolean) 2 := ⟨Tz_mem (tz5 (List.mem_of_getElem? (i := 103) rfl)) rfl, Tz_mem (tz1 (List.mem_of_getElem? (i := 6) rfl)) rfl, ⟨by decide +kernel, by decide +kernel⟩, by decide +kernel⟩
theorem ky_X1_findAt : CY yX1_findAt cX1_findAt 5 (some .int) 2 := ⟨Tz_mem (tz4 (List.mem_of_getElem? (i := 25) rfl)) rfl, Tz_mem (tz1 (List.mem_of_getElem? (i := 16) rfl)) rfl, ⟨by decide +kernel, by decide +kernel⟩, by decide +kernel⟩
theorem ky_X6_layOutRow : CY yX6_layOutRow cX6_layOutRow 4 none 2 := ⟨Tz_mem (tz2 (List.mem_of_getElem? (i := 223) rfl)) rfl, Tz_mem (tz1 (List.mem_of_getElem? (i := 1) rfl)) rfl, ⟨by decide +kernel, by decide +kernel⟩, by decide +kernel⟩
theorem ky_X3_standAs : CY yX3_standAs cX3_standAs 5 none 1 := ⟨Tz_mem (tz3 (List.mem_of_getElem? (i := 6) rfl)) rfl, Tz_mem (tz1 (List.mem_of_getElem? (i := 2) rfl)) rfl, ⟨by decide +kernel, by decide +kernel⟩, by decide +kernel⟩
theorem ky_X1_countOfSize : CY yX1_countOfSize cX1_countOfSize 4 (some .int) 2 := ⟨Tz_mem (tz4 (List.mem_of_getElem? (i := 14) rfl)) rfl, Tz_mem (tz1 (List.mem_of_getElem? (i := 16) rfl)) rfl, ⟨by decide +kernel, by decide +kernel⟩, by decide +kernel⟩
theorem ky_X3_pared : CY yX3_pared cX3_pared 4 (some .int) 1 := ⟨Tz_mem (tz4 (List.mem_of_getElem? (i := 76) rfl)) rfl, Tz_mem (tz1 (List.mem_of_getElem? (i := 2) rfl)) rfl, ⟨by decide +kernel, by decide +kernel⟩, by decide +kernel⟩
theorem ky_X6_orderWithBoth : CY yX6_orderWithBoth cX6_orderWithBoth 5 (some (.object "Belowhouse$Order")) 3 := ⟨Tz_mem (tz2 (List.mem_of_getElem? (i := 184) rfl)) rfl, Tz_mem (tz1 (List.mem_of_getElem? (i := 1) rfl)) rfl, ⟨by decide +kernel, by decide +kernel⟩, by decide +kernel⟩
theorem ky_X3_lineUp : CY yX3_lineUp cX3_lineUp 2 none 0 := ⟨Tz_mem (tz2 (List.mem_of_getElem? (i := 94) rfl)) rfl, Tz_mem (tz1 (List.mem_of_getElem? (i := 2) rfl)) rfl, ⟨by decide +kernel, by decide +kernel⟩, by decide +kernel⟩
theorem ky_X1_countShared : CY yX1_countShared cX1_countShared 4 (some .int) 2 := ⟨Tz_mem (tz4 (List.mem_of_getElem? (i := 93) rfl)) rfl, Tz_mem (tz1 (List.mem_of_getElem? (i := 16) rfl)) rfl, ⟨by decide +kernel, by decide +kernel⟩, by decide +kernel⟩
theorem ky_X6_atLeastOne : CY yX6_atLeastOne cX6_atLeastOne 1 (some .int) 1 := ⟨Tz_mem (tz4 (List.mem_of_getElem? (i := 173) rfl)) rfl, Tz_mem (tz1 (List.mem_of_getElem? (i := 1) rfl)) rfl, ⟨by decide +kernel, by decide +kernel⟩, by decide +kernel⟩
theorem ky_X4_sumOfPlaces : CY yX4_sumOfPlaces cX4_sumOfPlaces 5 (some .int) 2 := ⟨Tz_mem (tz4 (List.mem_of_getElem? (i := 178) rfl)) rfl, Tz_mem (tz1 (List.mem_of_getElem? (i := 4) rfl)) rfl, ⟨by decide +kernel, by decide +kernel⟩, by decide +kernel⟩
theorem ky_X4_findPlace : CY yX4_findPlace cX4_findPlace 7 (some .int) 2 := ⟨Tz_mem (tz4 (List.mem_of_getElem? (i := 122) rfl)) rfl, Tz_mem (tz1 (List.mem_of_getElem? (i := 4) rfl)) rfl, ⟨by decide +kernel, by decide +kernel⟩, by decide +kernel⟩
theorem ky_X4_lineAsNumber : CY yX4_lineAsNumber cX4_lineAsNumber 4 (some .int) 1 := ⟨Tz_mem (tz4 (List.mem_of_getElem? (i := 111) rfl)) rfl, Tz_mem (tz1 (List.mem_of_getElem? (i := 4) rfl)) rfl, ⟨by decide +kernel, by decide +kernel⟩, by decide +kernel⟩
theorem ky_X1_firstBehind : CY yX1_firstBehind cX1_firstBehind 4 (some .int) 2 := ⟨Tz_mem (tz4 (List.mem_of_getElem? (i := 53) rfl)) rfl, Tz_mem (tz1 (List.mem_of_getElem? (i := 16) rfl)) rfl, ⟨by decide +kernel, by decide +kernel⟩, by decide +kernel⟩
theorem ky_X1_lastAhead : CY yX1_lastAhead cX1_lastAhead 4 (some .int) 2 := ⟨Tz_mem (tz4 (List.mem_of_getElem? (i := 50) rfl)) rfl, Tz_mem (tz1 (List.mem_of_getElem? (i := 16) rfl)) rfl, ⟨by decide +kernel, by decide +kernel⟩, by decide +kernel⟩
theorem ky_X3_becomeCommon : CY yX3_becomeCommon cX3_becomeCommon 4 none 2 := ⟨Tz_mem (tz3 (List.mem_of_getElem? (i := 68) rfl)) rfl, Tz_mem (tz1 (List.mem_of_getElem? (i := 2) rfl)) rfl, ⟨by decide +kernel, by decide +kernel⟩, by decide +kernel⟩
theorem ky_X4_countAtPlace : CY yX4_countAtPlace cX4_countAtPlace 6 (some .int) 3 := ⟨Tz_mem (tz4 (List.mem_of_getElem? (i := 162) rfl)) rfl, Tz_mem (tz1 (List.mem_of_getElem? (i := 4) rfl)) rfl, ⟨by decide +kernel, by decide +kernel⟩, by decide +kernel⟩
theorem ky_X3_nextCount : CY yX3_nextCount cX3_nextCount 3 (some .int) 0 := ⟨Tz_mem (tz3 (List.mem_of_getElem? (i := 94) rfl)) rfl, Tz_mem (tz1 (List.mem_of_getElem? (i := 2) rfl)) rfl, ⟨by decide +kernel, by decide +kernel⟩, by decide +kernel⟩
theorem ky_X1_countAhead : CY yX1_countAhead cX1_countAhead 4 (some .int) 2 := ⟨Tz_mem (tz4 (List.mem_of_getElem? (i := 37) rfl)) rfl, Tz_mem (tz1 (List.mem_of_getElem? (i := 16) rfl)) rfl, ⟨by decide +kernel, by decide +kernel⟩, by decide +kernel⟩
theorem ky_X2_between : CY yX2_between cX2_between 4 (some .int) 3 := ⟨Tz_mem (tz4 (List.mem_of_getElem? (i := 207) rfl)) rfl, Tz_mem (tz1 (List.mem_of_getElem? (i := 5) rfl)) rfl, ⟨by decide +kernel, by decide +kernel⟩, by decide +kernel⟩
theorem ks_X6_refuseOddValue : Cond.static yX6_refuseOddValue ∈ Tz := Tz_mem (tz2 (List.mem_of_getElem? (i := 108) rfl)) rfl
theorem ks_X6_refuseOddMany : Cond.static yX6_refuseOddMany ∈ Tz := Tz_mem (tz2 (List.mem_of_getElem? (i := 62) rfl)) rfl
theorem ks_X1_findAt : Cond.static yX1_findAt ∈ Tz := Tz_mem (tz4 (List.mem_of_getElem? (i := 24) rfl)) rfl
theorem ks_X1_countOfSize : Cond.static yX1_countOfSize ∈ Tz := Tz_mem (tz4 (List.mem_of_getElem? (i := 13) rfl)) rfl
theorem ks_X1_countShared : Cond.static yX1_countShared ∈ Tz := Tz_mem (tz4 (List.mem_of_getElem? (i := 92) rfl)) rfl
theorem ks_X6_atLeastOne : Cond.static yX6_atLeastOne ∈ Tz := Tz_mem (tz4 (List.mem_of_getElem? (i := 172) rfl)) rfl
theorem ks_X1_firstBehind : Cond.static yX1_firstBehind ∈ Tz := Tz_mem (tz4 (List.mem_of_getElem? (i := 52) rfl)) rfl
theorem ks_X1_lastAhead : Cond.static yX1_lastAhead ∈ Tz := Tz_mem (tz4 (List.mem_of_getElem? (i := 49) rfl)) rfl
theorem ks_X1_countAhead : Cond.static yX1_countAhead ∈ Tz := Tz_mem (tz4 (List.mem_of_getElem? (i := 36) rfl)) rfl
theorem kv_X6_orderAt : CYv yX6_orderAt := ⟨Tz_mem (tz1 (List.mem_of_getElem? (i := 231) rfl)) rfl, Tz_mem (tz0 (List.mem_of_getElem? (i := 2) rfl)) rfl⟩
theorem kv_X3_append : CYv yX3_append := ⟨Tz_mem (tz2 (List.mem_of_getElem? (i := 128) rfl)) rfl, Tz_mem (tz2 (List.mem_of_getElem? (i := 129) rfl)) rfl⟩
theorem kv_X5_holdsFor : CYv yX5_holdsFor := ⟨Tz_mem (tz4 (List.mem_of_getElem? (i := 239) rfl)) rfl, Tz_mem (tz5 (List.mem_of_getElem? (i := 0) rfl)) rfl⟩
theorem kv_X6_joinInto : CYv yX6_joinInto := ⟨Tz_mem (tz3 (List.mem_of_getElem? (i := 40) rfl)) rfl, Tz_mem (tz0 (List.mem_of_getElem? (i := 10) rfl)) rfl⟩
theorem kv_X6_orderWith : CYv yX6_orderWith := ⟨Tz_mem (tz2 (List.mem_of_getElem? (i := 140) rfl)) rfl, Tz_mem (tz0 (List.mem_of_getElem? (i := 4) rfl)) rfl⟩
theorem kv_X6_orderWithSet : CYv yX6_orderWithSet := ⟨Tz_mem (tz2 (List.mem_of_getElem? (i := 163) rfl)) rfl, Tz_mem (tz0 (List.mem_of_getElem? (i := 5) rfl)) rfl⟩
theorem kv_X4_layOut : CYv yX4_layOut := ⟨Tz_mem (tz2 (List.mem_of_getElem? (i := 236) rfl)) rfl, Tz_mem (tz2 (List.mem_of_getElem? (i := 237) rfl)) rfl⟩
theorem kv_X5_holdsForBoth : CYv yX5_holdsForBoth := ⟨Tz_mem (tz5 (List.mem_of_getElem? (i := 101) rfl)) rfl, Tz_mem (tz5 (List.mem_of_getElem? (i := 102) rfl)) rfl⟩
theorem kv_X6_layOutRow : CYv yX6_layOutRow := ⟨Tz_mem (tz2 (List.mem_of_getElem? (i := 222) rfl)) rfl, Tz_mem (tz0 (List.mem_of_getElem? (i := 7) rfl)) rfl⟩
theorem kv_X3_standAs : CYv yX3_standAs := ⟨Tz_mem (tz3 (List.mem_of_getElem? (i := 4) rfl)) rfl, Tz_mem (tz3 (List.mem_of_getElem? (i := 5) rfl)) rfl⟩
theorem kv_X3_pared : CYv yX3_pared := ⟨Tz_mem (tz4 (List.mem_of_getElem? (i := 74) rfl)) rfl, Tz_mem (tz4 (List.mem_of_getElem? (i := 75) rfl)) rfl⟩
theorem kv_X6_orderWithBoth : CYv yX6_orderWithBoth := ⟨Tz_mem (tz2 (List.mem_of_getElem? (i := 183) rfl)) rfl, Tz_mem (tz0 (List.mem_of_getElem? (i := 6) rfl)) rfl⟩
theorem kv_X3_lineUp : CYv yX3_lineUp := ⟨Tz_mem (tz2 (List.mem_of_getElem? (i := 92) rfl)) rfl, Tz_mem (tz2 (List.mem_of_getElem? (i := 93) rfl)) rfl⟩
theorem kv_X4_sumOfPlaces : CYv yX4_sumOfPlaces := ⟨Tz_mem (tz4 (List.mem_of_getElem? (i := 176) rfl)) rfl, Tz_mem (tz4 (List.mem_of_getElem? (i := 177) rfl)) rfl⟩
theorem kv_X4_findPlace : CYv yX4_findPlace := ⟨Tz_mem (tz4 (List.mem_of_getElem? (i := 120) rfl)) rfl, Tz_mem (tz4 (List.mem_of_getElem? (i := 121) rfl)) rfl⟩
theorem kv_X4_lineAsNumber : CYv yX4_lineAsNumber := ⟨Tz_mem (tz4 (List.mem_of_getElem? (i := 109) rfl)) rfl, Tz_mem (tz4 (List.mem_of_getElem? (i := 110) rfl)) rfl⟩
theorem kv_X3_becomeCommon : CYv yX3_becomeCommon := ⟨Tz_mem (tz3 (List.mem_of_getElem? (i := 66) rfl)) rfl, Tz_mem (tz3 (List.mem_of_getElem? (i := 67) rfl)) rfl⟩
theorem kv_X4_countAtPlace : CYv yX4_countAtPlace := ⟨Tz_mem (tz4 (List.mem_of_getElem? (i := 160) rfl)) rfl, Tz_mem (tz4 (List.mem_of_getElem? (i := 161) rfl)) rfl⟩
theorem kv_X3_nextCount : CYv yX3_nextCount := ⟨Tz_mem (tz3 (List.mem_of_getElem? (i := 92) rfl)) rfl, Tz_mem (tz3 (List.mem_of_getElem? (i := 93) rfl)) rfl⟩
theorem kv_X2_between : CYv yX2_between := ⟨Tz_mem (tz4 (List.mem_of_getElem? (i := 205) rfl)) rfl, Tz_mem (tz4 (List.mem_of_getElem? (i := 206) rfl)) rfl⟩
theorem ta_eS : ∀ w ∈ vx_atS RX6 77 eS ["java/lang/RuntimeException", "java/lang/Exception"], w ∈ Tz := fun w hw => List.mem_filter.mpr ⟨(by decide +kernel : ∀ w ∈ vx_atS RX6 77 eS ["java/lang/RuntimeException", "java/lang/Exception"], w ∈ lw_tbl) w hw, List.all_eq_true.mp (by decide +kernel : (vx_atS RX6 77 eS ["java/lang/RuntimeException", "java/lang/Exception"]).all okW = true) w hw⟩
theorem ta_eI : ∀ w ∈ vx_atS RX6 203 eI ["java/lang/RuntimeException", "java/lang/Exception"], w ∈ Tz := fun w hw => List.mem_filter.mpr ⟨(by decide +kernel : ∀ w ∈ vx_atS RX6 203 eI ["java/lang/RuntimeException", "java/lang/Exception"], w ∈ lw_tbl) w hw, List.all_eq_true.mp (by decide +kernel : (vx_atS RX6 203 eI ["java/lang/RuntimeException", "java/lang/Exception"]).all okW = true) w hw⟩
theorem ta_eA : ∀ w ∈ vx_atS RX6 220 eA ["java/lang/RuntimeException", "java/lang/Exception"], w ∈ Tz := fun w hw => List.mem_filter.mpr ⟨(by decide +kernel : ∀ w ∈ vx_atS RX6 220 eA ["java/lang/RuntimeException", "java/lang/Exception"], w ∈ lw_tbl) w hw, List.all_eq_true.mp (by decide +kernel : (vx_atS RX6 220 eA ["java/lang/RuntimeException", "java/lang/Exception"]).all okW = true) w hw⟩
theorem tb_216_eA : ∀ w ∈ Cond.classLink RX6 216 eA :: Cond.initialized eA :: vx_atS RX6 220 eA ["java/lang/RuntimeException", "java/lang/Exception"], vx_ot w = true := fun w hw => List.all_eq_true.mp (by decide +kernel : (Cond.classLink RX6 216 eA :: Cond.initialized eA :: vx_atS RX6 220 eA ["java/lang/RuntimeException", "java/lang/Exception"]).all vx_ot = true) w hw
theorem tb_199_eI : ∀ w ∈ Cond.classLink RX6 199 eI :: Cond.initialized eI :: vx_atS RX6 203 eI ["java/lang/RuntimeException", "java/lang/Exception"], vx_ot w = true := fun w hw => List.all_eq_true.mp (by decide +kernel : (Cond.classLink RX6 199 eI :: Cond.initialized eI :: vx_atS RX6 203 eI ["java/lang/RuntimeException", "java/lang/Exception"]).all vx_ot = true) w hw
theorem tb_73_eS : ∀ w ∈ Cond.classLink RX6 73 eS :: Cond.initialized eS :: vx_atS RX6 77 eS ["java/lang/RuntimeException", "java/lang/Exception"], vx_ot w = true := fun w hw => List.all_eq_true.mp (by decide +kernel : (Cond.classLink RX6 73 eS :: Cond.initialized eS :: vx_atS RX6 77 eS ["java/lang/RuntimeException", "java/lang/Exception"]).all vx_ot = true) w hw
theorem kl_X6_48 : Cond.methodLink RX6 48 yX6_orderAt ∈ Tz := Tz_mem (tz1 (List.mem_of_getElem? (i := 229) rfl)) rfl
theorem kl_X6_70 : Cond.methodLink RX6 70 yX6_refuseOddValue ∈ Tz := Tz_mem (tz2 (List.mem_of_getElem? (i := 107) rfl)) rfl
theorem kl_X6_135 : Cond.methodLink RX6 135 yX6_joinInto ∈ Tz := Tz_mem (tz3 (List.mem_of_getElem? (i := 38) rfl)) rfl
theorem kl_X6_84 : Cond.methodLink RX6 84 yX6_orderWith ∈ Tz := Tz_mem (tz2 (List.mem_of_getElem? (i := 138) rfl)) rfl
theorem kl_X6_98 : Cond.methodLink RX6 98 yX6_orderWithSet ∈ Tz := Tz_mem (tz2 (List.mem_of_getElem? (i := 161) rfl)) rfl
theorem kl_X6_52 : Cond.methodLink RX6 52 yX6_refuseOddMany ∈ Tz := Tz_mem (tz2 (List.mem_of_getElem? (i := 61) rfl)) rfl
theorem kl_X6_117 : Cond.methodLink RX6 117 yX6_layOutRow ∈ Tz := Tz_mem (tz2 (List.mem_of_getElem? (i := 220) rfl)) rfl
theorem kl_X6_101 : Cond.methodLink RX6 101 yX6_orderWithBoth ∈ Tz := Tz_mem (tz2 (List.mem_of_getElem? (i := 181) rfl)) rfl
theorem kt_X6_199_203 : TH RX6 199 203 eI := ⟨by decide +kernel, Tz_mem (tz1 (List.mem_of_getElem? (i := 233) rfl)) rfl, Tz_mem (tz1 (List.mem_of_getElem? (i := 11) rfl)) rfl, fun w hw => ta_eI w hw, tb_199_eI⟩
theorem kt_X6_216_220 : TH RX6 216 220 eA := ⟨by decide +kernel, Tz_mem (tz2 (List.mem_of_getElem? (i := 64) rfl)) rfl, Tz_mem (tz1 (List.mem_of_getElem? (i := 12) rfl)) rfl, fun w hw => ta_eA w hw, tb_216_eA⟩
theorem kt_X6_73_77 : TH RX6 73 77 eS := ⟨by decide +kernel, Tz_mem (tz2 (List.mem_of_getElem? (i := 111) rfl)) rfl, Tz_mem (tz1 (List.mem_of_getElem? (i := 14) rfl)) rfl, fun w hw => ta_eS w hw, tb_73_eS⟩
