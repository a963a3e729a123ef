section WL
variable {p : Program} {l : Launch} {e : Env} {s : State} {m : MethodId} {args : Array Value} {below : List Frame} {meth : Method} {c : Code} {B : Nat} {D : va_G} {Y : Nat → ClassId} {o : Ou}
set_option maxRecDepth 100000 in
theorem m_L_above (l : Launch) (hl9 : l.stackTraces = false) (B : Nat) (D : va_G) (Y : Nat → ClassId) (o : Ou) {M : Mem} {x1 : Int32} {x2 : Int32} {x3 : Int32} {r : Int32 × Mem × Option Int64} (hf : f_L_above M x1 x2 x3 = some r) : Met l yL_above [Cond.codeWith yL_above cL_above 6 (some .int) [(0, 12, 15, 13), (0, 12, 19, 23)]] rm_L_above (va_Pc [.ref (B + 0), .int x1, .int x2, .int x3, .ref (B + 110)] (InvX B D Y M o)) (PQ B D Y r.2.1 (oo o r.2.2) (some (.int r.1))) 4 24 (fun q => B ≤ q) := by
  refine ofAtL (L0 := [(0, .ref (B + 0)), (1, .int x1), (2, .int x2), (3, .int x3), (4, .ref (B + 110))]) (by decide +kernel) (Nat.le_of_ble_eq_true rfl) rfl (fun p e s m args below meth c C hX hr hk ht => ?_)
  dsimp only [f_L_above] at hf
  refine A_aload C (pc := 0) 4 rfl dL_above_0 ?_
  refine A_iconst C (pc := 2) ic_0 dL_above_2 ?_
  refine A_aload_n C (pc := 3) 0 rfl dL_above_3 ?_
  refine A_iload_n C (pc := 4) 1 rfl dL_above_4 ?_
  refine A_iload_n C (pc := 5) 2 rfl dL_above_5 ?_
  refine A_iload_n C (pc := 6) 3 rfl dL_above_6 ?_
  obtain ⟨z7, h7, hf⟩ := bd_i hf
  refine L_callV C (pc := 7) hX (A := [.int x1, .int x2, .int x3]) (rest := [.int 0, .ref (B + 110)]) kl_L_54 ky_X6_above kv_X6_above (m_X6_above l hl9 B D Y o h7) (by decide) rfl rfl rfl rfl (Nat.le_of_ble_eq_true rfl) ⟨rfl, rfl, Nat.le_of_ble_eq_true rfl, Nat.le_of_ble_eq_true rfl⟩ ⟨Nat.le_of_ble_eq_true rfl, Nat.le_of_ble_eq_true rfl⟩ dL_above_7 hf (fun E hf => ?_) (fun v7 hf => ?_)
  · by_cases hE0 : E = eI
    · rw [if_pos hE0] at hf
      subst hE0
      refine ⟨[], ⟨0, 12, 15, 13⟩, [⟨0, 12, 19, 23⟩], eI, by rw [ht]; rfl, fun z hz => absurd hz List.not_mem_nil, by decide, by decide, kL_I, kE_I, fun a => ?_⟩
      refine A_astore C (pc := 15) (x := a) [] (by decide) [] rfl dL_above_15 ?_
      refine A_iconst C (pc := 17) ic_1 dL_above_17 ?_
      exact L_ri (o0 := o) (ov := none) C (pc := 18) hr hk rfl ⟨Nat.le_of_ble_eq_true rfl, Nat.le_of_ble_eq_true rfl⟩ dL_above_18 hf
    rw [if_neg hE0] at hf
    by_cases hE1 : E = eS
    · rw [if_pos hE1] at hf
      subst hE1
      refine ⟨[⟨0, 12, 15, 13⟩], ⟨0, 12, 19, 23⟩, [], eS, by rw [ht]; rfl, fun z hz => by
        rcases List.mem_cons.mp hz with rfl | hz
        · exact Or.inr ⟨by decide, eI, kL_I, hX.2.1 _ (List.mem_of_getElem? (i := 1) rfl)⟩
        exact absurd hz List.not_mem_nil, by decide, by decide, kL_S, kE_S, fun a => ?_⟩
      refine A_astore C (pc := 19) (x := a) [] (by decide) [] rfl dL_above_19 ?_
      refine A_iconst C (pc := 21) ic_2 dL_above_21 ?_
      exact L_ri (o0 := o) (ov := none) C (pc := 22) hr hk rfl ⟨Nat.le_of_ble_eq_true rfl, Nat.le_of_ble_eq_true rfl⟩ dL_above_22 hf
    rw [if_neg hE1] at hf
    cases hf
  · refine A_i2l C (pc := 10) dL_above_10 ?_
    refine A_last C (pc := 11) dL_above_11 ?_
    refine A_goto C (pc := 12) 23 (by decide) dL_above_12 ?_
    refine A_iconst C (pc := 23) ic_0 dL_above_23 ?_
    exact L_ri (o0 := o) (ov := some v7.toInt64) C (pc := 24) hr hk rfl ⟨Nat.le_of_ble_eq_true rfl, Nat.le_of_ble_eq_true rfl⟩ dL_above_24 hf
set_option maxRecDepth 100000 in
theorem m_L_add (l : Launch) (hl9 : l.stackTraces = false) (B : Nat) (D : va_G) (Y : Nat → ClassId) (o : Ou) {M : Mem} {x1 : Int32} {x2 : Int32} {r : Int32 × Mem × Option Int64} (hf : f_L_add M x1 x2 = some r) : Met l yL_add [Cond.codeWith yL_add cL_add 5 (some .int) [(0, 10, 13, 13), (0, 10, 17, 15), (0, 10, 21, 23)]] rm_L_add (va_Pc [.ref (B + 0), .int x1, .int x2, .ref (B + 110)] (InvX B D Y M o)) (PQ B D Y r.2.1 (oo o r.2.2) (some (.int r.1))) 3 18 (fun q => B ≤ q) := by
  refine ofAtL (L0 := [(0, .ref (B + 0)), (1, .int x1), (2, .int x2), (3, .ref (B + 110))]) (by decide +kernel) (Nat.le_of_ble_eq_true rfl) rfl (fun p e s m args below meth c C hX hr hk ht => ?_)
  dsimp only [f_L_add] at hf
  refine A_aload_n C (pc := 0) 3 rfl dL_add_0 ?_
  refine A_iconst C (pc := 1) ic_0 dL_add_1 ?_
  refine A_aload_n C (pc := 2) 0 rfl dL_add_2 ?_
  refine A_iload_n C (pc := 3) 1 rfl dL_add_3 ?_
  refine A_iload_n C (pc := 4) 2 rfl dL_add_4 ?_
  obtain ⟨z5, h5, hf⟩ := bd_i hf
  refine L_callV C (pc := 5) hX (A := [.int x1, .int x2]) (rest := [.int 0, .ref (B + 110)]) kl_L_20 ky_X6_add kv_X6_add (m_X6_add l hl9 B D Y o h5) (by decide) rfl rfl rfl rfl (Nat.le_of_ble_eq_true rfl) ⟨rfl, rfl, Nat.le_of_ble_eq_true rfl, Nat.le_of_ble_eq_true rfl⟩ ⟨Nat.le_of_ble_eq_true rfl, Nat.le_of_ble_eq_true rfl⟩ dL_add_5 hf (fun E hf => ?_) (fun v5 hf => ?_)
  · by_cases hE0 : E = eI
    · rw [if_pos hE0] at hf
      subst hE0
      refine ⟨[], ⟨0, 10, 13, 13⟩, [⟨0, 10, 17, 15⟩, ⟨0, 10, 21, 23⟩], eI, by rw [ht]; rfl, fun z hz => absurd hz List.not_mem_nil, by decide, by decide, kL_I, kE_I, fun a => ?_⟩
      refine A_astore C (pc := 13) (x := a) [] (by decide) [] rfl dL_add_13 ?_
      refine A_iconst C (pc := 15) ic_1 dL_add_15 ?_
      exact L_ri (o0 := o) (ov := none) C (pc := 16) hr hk rfl ⟨Nat.le_of_ble_eq_true rfl, Nat.le_of_ble_eq_true rfl⟩ dL_add_16 hf
    rw [if_neg hE0] at hf
    by_cases hE1 : E = eA
    · rw [if_pos hE1] at hf
      subst hE1
      refine ⟨[⟨0, 10, 13, 13⟩], ⟨0, 10, 17, 15⟩, [⟨0, 10, 21, 23⟩], eA, by rw [ht]; rfl, fun z hz => by
        rcases List.mem_cons.mp hz with rfl | hz
        · exact Or.inr ⟨by decide, eI, kL_I, hX.2.1 _ (List.mem_of_getElem? (i := 0) rfl)⟩
        exact absurd hz List.not_mem_nil, by decide, by decide, kL_A, kE_A, fun a => ?_⟩
      refine A_astore C (pc := 17) (x := a) [] (by decide) [] rfl dL_add_17 ?_
      refine A_iconst C (pc := 19) ic_2 dL_add_19 ?_
      exact L_ri (o0 := o) (ov := none) C (pc := 20) hr hk rfl ⟨Nat.le_of_ble_eq_true rfl, Nat.le_of_ble_eq_true rfl⟩ dL_add_20 hf
    rw [if_neg hE1] at hf
    by_cases hE2 : E = eS
    · rw [if_pos hE2] at hf
      subst hE2
      refine ⟨[⟨0, 10, 13, 13⟩, ⟨0, 10, 17, 15⟩], ⟨0, 10, 21, 23⟩, [], eS, by rw [ht]; rfl, fun z hz => by
        rcases List.mem_cons.mp hz with rfl | hz
        · exact Or.inr ⟨by decide, eI, kL_I, hX.2.1 _ (List.mem_of_getElem? (i := 1) rfl)⟩
        rcases List.mem_cons.mp hz with rfl | hz
        · exact Or.inr ⟨by decide, eA, kL_A, hX.2.1 _ (List.mem_of_getElem? (i := 3) rfl)⟩
        exact absurd hz List.not_mem_nil, by decide, by decide, kL_S, kE_S, fun a => ?_⟩
      refine A_astore C (pc := 21) (x := a) [] (by decide) [] rfl dL_add_21 ?_
      refine A_iconst C (pc := 23) ic_3 dL_add_23 ?_
      exact L_ri (o0 := o) (ov := none) C (pc := 24) hr hk rfl ⟨Nat.le_of_ble_eq_true rfl, Nat.le_of_ble_eq_true rfl⟩ dL_add_24 hf
    rw [if_neg hE2] at hf
    cases hf
  · refine A_i2l C (pc := 8) dL_add_8 ?_
    refine A_last C (pc := 9) dL_add_9 ?_
    refine A_goto C (pc := 10) 25 (by decide) dL_add_10 ?_
    refine A_iconst C (pc := 25) ic_0 dL_add_25 ?_
    exact L_ri (o0 := o) (ov := some v5.toInt64) C (pc := 26) hr hk rfl ⟨Nat.le_of_ble_eq_true rfl, Nat.le_of_ble_eq_true rfl⟩ dL_add_26 hf
set_option maxRecDepth 100000 in
theorem m_L_aparts (l : Launch) (hl9 : l.stackTraces = false) (B : Nat) (D : va_G) (Y : Nat → ClassId) (o : Ou) {M : Mem} {x1 : Int32} {r : Int32 × Mem × Option Int64} (hf : f_L_aparts M x1 = some r) : Met l yL_aparts [Cond.codeWith yL_aparts cL_aparts 4 (some .int) [(0, 9, 12, 13)]] rm_L_aparts (va_Pc [.ref (B + 0), .int x1, .ref (B + 110)] (InvX B D Y M o)) (PQ B D Y r.2.1 (oo o r.2.2) (some (.int r.1))) 1 6 (fun q => B ≤ q) := by
  refine ofAtL (L0 := [(0, .ref (B + 0)), (1, .int x1), (2, .ref (B + 110))]) (by decide +kernel) (Nat.le_of_ble_eq_true rfl) rfl (fun p e s m args below meth c C hX hr hk ht => ?_)
  dsimp only [f_L_aparts] at hf
  refine A_aload_n C (pc := 0) 2 rfl dL_aparts_0 ?_
  refine A_iconst C (pc := 1) ic_0 dL_aparts_1 ?_
  refine A_aload_n C (pc := 2) 0 rfl dL_aparts_2 ?_
  refine A_iload_n C (pc := 3) 1 rfl dL_aparts_3 ?_
  obtain ⟨z4, h4, hf⟩ := bd_i hf
  refine L_callV C (pc := 4) hX (A := [.int x1]) (rest := [.int 0, .ref (B + 110)]) kl_L_115 ky_X6_aparts kv_X6_aparts (m_X6_aparts l hl9 B D Y o h4) (by decide) rfl rfl rfl rfl (Nat.le_of_ble_eq_true rfl) ⟨rfl, rfl, Nat.le_of_ble_eq_true rfl, Nat.le_of_ble_eq_true rfl⟩ ⟨Nat.le_of_ble_eq_true rfl, Nat.le_of_ble_eq_true rfl⟩ dL_aparts_4 hf (fun E hf => ?_) (fun v4 hf => ?_)
  · by_cases hE0 : E = eI
    · rw [if_pos hE0] at hf
      subst hE0
      refine ⟨[], ⟨0, 9, 12, 13⟩, [], eI, by rw [ht]; rfl, fun z hz => absurd hz List.not_mem_nil, by decide, by decide, kL_I, kE_I, fun a => ?_⟩
      refine A_astore_n C (pc := 12) (x := a) [] rfl (by decide) [] rfl dL_aparts_12 ?_
      refine A_iconst C (pc := 13) ic_1 dL_aparts_13 ?_
      exact L_ri (o0 := o) (ov := none) C (pc := 14) hr hk rfl ⟨Nat.le_of_ble_eq_true rfl, Nat.le_of_ble_eq_true rfl⟩ dL_aparts_14 hf
    rw [if_neg hE0] at hf
    cases hf
  · refine A_i2l C (pc := 7) dL_aparts_7 ?_
    refine A_last C (pc := 8) dL_aparts_8 ?_
    refine A_goto C (pc := 9) 15 (by decide) dL_aparts_9 ?_
    refine A_iconst C (pc := 15) ic_0 dL_aparts_15 ?_
    exact L_ri (o0 := o) (ov := some v4.toInt64) C (pc := 16) hr hk rfl ⟨Nat.le_of_ble_eq_true rfl, Nat.le_of_ble_eq_true rfl⟩ dL_aparts_16 hf
set_option maxRecDepth 100000 in
theorem m_L_areSound (l : Launch) (hl9 : l.stackTraces = false) (B : Nat) (D : va_G) (Y : Nat → ClassId) (o : Ou) {M : Mem} {x1 : Int32} {x2 : Int32} {r : Int32 × Mem × Option Int64} (hf : f_L_areSound M x1 x2 = some r) : Met l yL_areSound [Cond.codeWith yL_areSound cL_areSound 5 (some .int) [(0, 17, 20, 13)]] rm_L_areSound (va_Pc [.ref (B + 0), .int x1, .int x2, .ref (B + 110)] (InvX B D Y M o)) (PQ B D Y r.2.1 (oo o r.2.2) (some (.int r.1))) 2 12 (fun q => B ≤ q) := by
  refine ofAtL (L0 := [(0, .ref (B + 0)), (1, .int x1), (2, .int x2), (3, .ref (B + 110))]) (by decide +kernel) (Nat.le_of_ble_eq_true rfl) rfl (fun p e s m args below meth c C hX hr hk ht => ?_)
  dsimp only [f_L_areSound] at hf
  refine A_aload_n C (pc := 0) 3 rfl dL_areSound_0 ?_
  refine A_iconst C (pc := 1) ic_0 dL_areSound_1 ?_
  refine A_aload_n C (pc := 2) 0 rfl dL_areSound_2 ?_
  refine A_iload_n C (pc := 3) 1 rfl dL_areSound_3 ?_
  refine A_iload_n C (pc := 4) 2 rfl dL_areSound_4 ?_
  obtain ⟨z5, h5, hf⟩ := bd_i hf
  refine L_callV C (pc := 5) hX (A := [.int x1, .int x2]) (rest := [.int 0, .ref (B + 110)]) kl_L_185 ky_X6_areSound kv_X6_areSound (m_X6_areSound l hl9 B D Y o h5) (by decide) rfl rfl rfl rfl (Nat.le_of_ble_eq_true rfl) ⟨rfl, rfl, Nat.le_of_ble_eq_true rfl, Nat.le_of_ble_eq_true rfl⟩ ⟨Nat.le_of_ble_eq_true rfl, Nat.le_of_ble_eq_true rfl⟩ dL_areSound_5 hf (fun E hf => ?_) (fun v5 hf => ?_)
  · by_cases hE0 : E = eI
    · rw [if_pos hE0] at hf
      subst hE0
      refine ⟨[], ⟨0, 17, 20, 13⟩, [], eI, by rw [ht]; rfl, fun z hz => absurd hz List.not_mem_nil, by decide, by decide, kL_I, kE_I, fun a => ?_⟩
      refine A_astore C (pc := 20) (x := a) [] (by decide) [] rfl dL_areSound_20 ?_
      refine A_iconst C (pc := 22) ic_1 dL_areSound_22 ?_
      exact L_ri (o0 := o) (ov := none) C (pc := 23) hr hk rfl ⟨Nat.le_of_ble_eq_true rfl, Nat.le_of_ble_eq_true rfl⟩ dL_areSound_23 hf
    rw [if_neg hE0] at hf
    cases hf
  · refine A_if_eq C (pc := 8) 15 (by decide) dL_areSound_8 hf (fun _ hf => ?_) (fun _ hf => ?_)
    · refine A_lconst C (pc := 15) (v := 0) (by decide) dL_areSound_15 ?_
      refine A_last C (pc := 16) dL_areSound_16 ?_
      refine A_goto C (pc := 17) 24 (by decide) dL_areSound_17 ?_
      refine A_iconst C (pc := 24) ic_0 dL_areSound_24 ?_
      exact L_ri (o0 := o) (ov := some 0) C (pc := 25) hr hk rfl ⟨Nat.le_of_ble_eq_true rfl, Nat.le_of_ble_eq_true rfl⟩ dL_areSound_25 hf
    · refine A_lconst C (pc := 11) (v := 1) (by decide) dL_areSound_11 ?_
      refine A_goto C (pc := 12) 16 (by decide) dL_areSound_12 ?_
      refine A_last C (pc := 16) dL_areSound_16 ?_
      refine A_goto C (pc := 17) 24 (by decide) dL_areSound_17 ?_
      refine A_iconst C (pc := 24) ic_0 dL_areSound_24 ?_
      exact L_ri (o0 := o) (ov := some 1) C (pc := 25) hr hk rfl ⟨Nat.le_of_ble_eq_true rfl, Nat.le_of_ble_eq_true rfl⟩ dL_areSound_25 hf
set_option maxRecDepth 100000 in
theorem m_L_beside (l : Launch) (hl9 : l.stackTraces = false) (B : Nat) (D : va_G) (Y : Nat → ClassId) (o : Ou) {M : Mem} {x1 : Int32} {x2 : Int32} {x3 : Int32} {r : Int32 × Mem × Option Int64} (hf : f_L_beside M x1 x2 x3 = some r) : Met l yL_beside [Cond.codeWith yL_beside cL_beside 6 (some .int) [(0, 12, 15, 13), (0, 12, 19, 23)]] rm_L_beside (va_Pc [.ref (B + 0), .int x1, .int x2, .int x3, .ref (B + 110)] (InvX B D Y M o)) (PQ B D Y r.2.1 (oo o r.2.2) (some (.int r.1))) 4 24 (fun q => B ≤ q) := by
  refine ofAtL (L0 := [(0, .ref (B + 0)), (1, .int x1), (2, .int x2), (3, .int x3), (4, .ref (B + 110))]) (by decide +kernel) (Nat.le_of_ble_eq_true rfl) rfl (fun p e s m args below meth c C hX hr hk ht => ?_)
  dsimp only [f_L_beside] at hf
  refine A_aload C (pc := 0) 4 rfl dL_beside_0 ?_
  refine A_iconst C (pc := 2) ic_0 dL_beside_2 ?_
  refine A_aload_n C (pc := 3) 0 rfl dL_beside_3 ?_
  refine A_iload_n C (pc := 4) 1 rfl dL_beside_4 ?_
  refine A_iload_n C (pc := 5) 2 rfl dL_beside_5 ?_
  refine A_iload_n C (pc := 6) 3 rfl dL_beside_6 ?_
  obtain ⟨z7, h7, hf⟩ := bd_i hf
  refine L_callV C (pc := 7) hX (A := [.int x1, .int x2, .int x3]) (rest := [.int 0, .ref (B + 110)]) kl_L_51 ky_X6_beside kv_X6_beside (m_X6_beside l hl9 B D Y o h7) (by decide) rfl rfl rfl rfl (Nat.le_of_ble_eq_true rfl) ⟨rfl, rfl, Nat.le_of_ble_eq_true rfl, Nat.le_of_ble_eq_true rfl⟩ ⟨Nat.le_of_ble_eq_true rfl, Nat.le_of_ble_eq_true rfl⟩ dL_beside_7 hf (fun E hf => ?_) (fun v7 hf => ?_)
  · by_cases hE0 : E = eI
    · rw [if_pos hE0] at hf
      subst hE0
      refine ⟨[], ⟨0, 12, 15, 13⟩, [⟨0, 12, 19, 23⟩], eI, by rw [ht]; rfl, fun z hz => absurd hz List.not_mem_nil, by decide, by decide, kL_I, kE_I, fun a => ?_⟩
      refine A_astore C (pc := 15) (x := a) [] (by decide) [] rfl dL_beside_15 ?_
      refine A_iconst C (pc := 17) ic_1 dL_beside_17 ?_
      exact L_ri (o0 := o) (ov := none) C (pc := 18) hr hk rfl ⟨Nat.le_of_ble_eq_true rfl, Nat.le_of_ble_eq_true rfl⟩ dL_beside_18 hf
    rw [if_neg hE0] at hf
    by_cases hE1 : E = eS
    · rw [if_pos hE1] at hf
      subst hE1
      refine ⟨[⟨0, 12, 15, 13⟩], ⟨0, 12, 19, 23⟩, [], eS, by rw [ht]; rfl, fun z hz => by
        rcases List.mem_cons.mp hz with rfl | hz
        · exact Or.inr ⟨by decide, eI, kL_I, hX.2.1 _ (List.mem_of_getElem? (i := 1) rfl)⟩
        exact absurd hz List.not_mem_nil, by decide, by decide, kL_S, kE_S, fun a => ?_⟩
      refine A_astore C (pc := 19) (x := a) [] (by decide) [] rfl dL_beside_19 ?_
      refine A_iconst C (pc := 21) ic_2 dL_beside_21 ?_
      exact L_ri (o0 := o) (ov := none) C (pc := 22) hr hk rfl ⟨Nat.le_of_ble_eq_true rfl, Nat.le_of_ble_eq_true rfl⟩ dL_beside_22 hf
    rw [if_neg hE1] at hf
    cases hf
  · refine A_i2l C (pc := 10) dL_beside_10 ?_
    refine A_last C (pc := 11) dL_beside_11 ?_
    refine A_goto C (pc := 12) 23 (by decide) dL_beside_12 ?_
    refine A_iconst C (pc := 23) ic_0 dL_beside_23 ?_
    exact L_ri (o0 := o) (ov := some v7.toInt64) C (pc := 24) hr hk rfl ⟨Nat.le_of_ble_eq_true rfl, Nat.le_of_ble_eq_true rfl⟩ dL_beside_24 hf
set_option maxRecDepth 100000 in
theorem m_L_chain (l : Launch) (hl9 : l.stackTraces = false) (B : Nat) (D : va_G) (Y : Nat → ClassId) (o : Ou) {M : Mem} {x1 : Int32} {x2 : Int32} {r : Int32 × Mem × Option Int64} (hf : f_L_chain M x1 x2 = some r) : Met l yL_chain [Cond.codeWith yL_chain cL_chain 5 (some .int) [(0, 10, 13, 13), (0, 10, 17, 15)]] rm_L_chain (va_Pc [.ref (B + 0), .int x1, .int x2, .ref (B + 110)] (InvX B D Y M o)) (PQ B D Y r.2.1 (oo o r.2.2) (some (.int r.1))) 2 12 (fun q => B ≤ q) := by
  refine ofAtL (L0 := [(0, .ref (B + 0)), (1, .int x1), (2, .int x2), (3, .ref (B + 110))]) (by decide +kernel) (Nat.le_of_ble_eq_true rfl) rfl (fun p e s m args below meth c C hX hr hk ht => ?_)
  dsimp only [f_L_chain] at hf
  refine A_aload_n C (pc := 0) 3 rfl dL_chain_0 ?_
  refine A_iconst C (pc := 1) ic_0 dL_chain_1 ?_
  refine A_aload_n C (pc := 2) 0 rfl dL_chain_2 ?_
  refine A_iload_n C (pc := 3) 1 rfl dL_chain_3 ?_
  refine A_iload_n C (pc := 4) 2 rfl dL_chain_4 ?_
  obtain ⟨z5, h5, hf⟩ := bd_i hf
  refine L_callV C (pc := 5) hX (A := [.int x1, .int x2]) (rest := [.int 0, .ref (B + 110)]) kl_L_17 ky_X6_chain kv_X6_chain (m_X6_chain l hl9 B D Y o h5) (by decide) rfl rfl rfl rfl (Nat.le_of_ble_eq_true rfl) ⟨rfl, rfl, Nat.le_of_ble_eq_true rfl, Nat.le_of_ble_eq_true rfl⟩ ⟨Nat.le_of_ble_eq_true rfl, Nat.le_of_ble_eq_true rfl⟩ dL_chain_5 hf (fun E hf => ?_) (fun v5 hf => ?_)
  · by_cases hE0 : E = eI
    · rw [if_pos hE0] at hf
      subst hE0
      refine ⟨[], ⟨0, 10, 13, 13⟩, [⟨0, 10, 17, 15⟩], eI, by rw [ht]; rfl, fun z hz => absurd hz List.not_mem_nil, by decide, by decide, kL_I, kE_I, fun a => ?_⟩
      refine A_astore C (pc := 13) (x := a) [] (by decide) [] rfl dL_chain_13 ?_
      refine A_iconst C (pc := 15) ic_1 dL_chain_15 ?_
      exact L_ri (o0 := o) (ov := none) C (pc := 16) hr hk rfl ⟨Nat.le_of_ble_eq_true rfl, Nat.le_of_ble_eq_true rfl⟩ dL_chain_16 hf
    rw [if_neg hE0] at hf
    by_cases hE1 : E = eA
    · rw [if_pos hE1] at hf
      subst hE1
      refine ⟨[⟨0, 10, 13, 13⟩], ⟨0, 10, 17, 15⟩, [], eA, by rw [ht]; rfl, fun z hz => by
        rcases List.mem_cons.mp hz with rfl | hz
        · exact Or.inr ⟨by decide, eI, kL_I, hX.2.1 _ (List.mem_of_getElem? (i := 0) rfl)⟩
        exact absurd hz List.not_mem_nil, by decide, by decide, kL_A, kE_A, fun a => ?_⟩
      refine A_astore C (pc := 17) (x := a) [] (by decide) [] rfl dL_chain_17 ?_
      refine A_iconst C (pc := 19) ic_2 dL_chain_19 ?_
      exact L_ri (o0 := o) (ov := none) C (pc := 20) hr hk rfl ⟨Nat.le_of_ble_eq_true rfl, Nat.le_of_ble_eq_true rfl⟩ dL_chain_20 hf
    rw [if_neg hE1] at hf
    cases hf
  · refine A_i2l C (pc := 8) dL_chain_8 ?_
    refine A_last C (pc := 9) dL_chain_9 ?_
    refine A_goto C (pc := 10) 21 (by decide) dL_chain_10 ?_
    refine A_iconst C (pc := 21) ic_0 dL_chain_21 ?_
    exact L_ri (o0 := o) (ov := some v5.toInt64) C (pc := 22) hr hk rfl ⟨Nat.le_of_ble_eq_true rfl, Nat.le_of_ble_eq_true rfl⟩ dL_chain_22 hf
set_option maxRecDepth 100000 in
theorem m_L_closed (l : Launch) (hl9 : l.stackTraces = false) (B : Nat) (D : va_G) (Y : Nat → ClassId) (o : Ou) {M : Mem} {x1 : Int32} {x2 : Int32} {r : Int32 × Mem × Option Int64} (hf : f_L_closed M x1 x2 = some r) : Met l yL_closed [Cond.codeWith yL_closed cL_closed 5 (some .int) [(0, 10, 13, 13), (0, 10, 17, 15)]] rm_L_closed (va_Pc [.ref (B + 0), .int x1, .int x2, .ref (B + 110)] (InvX B D Y M o)) (PQ B D Y r.2.1 (oo o r.2.2) (some (.int r.1))) 2 12 (fun q => B ≤ q) := by
  refine ofAtL (L0 := [(0, .ref (B + 0)), (1, .int x1), (2, .int x2), (3, .ref (B + 110))]) (by decide +kernel) (Nat.le_of_ble_eq_true rfl) rfl (fun p e s m args below meth c C hX hr hk ht => ?_)
  dsimp only [f_L_closed] at hf
  refine A_aload_n C (pc := 0) 3 rfl dL_closed_0 ?_
  refine A_iconst C (pc := 1) ic_0 dL_closed_1 ?_
  refine A_aload_n C (pc := 2) 0 rfl dL_closed_2 ?_
  refine A_iload_n C (pc := 3) 1 rfl dL_closed_3 ?_
  refine A_iload_n C (pc := 4) 2 rfl dL_closed_4 ?_
  obtain ⟨z5, h5, hf⟩ := bd_i hf
  refine L_callV C (pc := 5) hX (A := [.int x1, .int x2]) (rest := [.int 0, .ref (B + 110)]) kl_L_134 ky_X6_closed kv_X6_closed (m_X6_closed l hl9 B D Y o h5) (by decide) rfl rfl rfl rfl (Nat.le_of_ble_eq_true rfl) ⟨rfl, rfl, Nat.le_of_ble_eq_true rfl, Nat.le_of_ble_eq_true rfl⟩ ⟨Nat.le_of_ble_eq_true rfl, Nat.le_of_ble_eq_true rfl⟩ dL_closed_5 hf (fun E hf => ?_) (fun v5 hf => ?_)
  · by_cases hE0 : E = eI
    · rw [if_pos hE0] at hf
      subst hE0
      refine ⟨[], ⟨0, 10, 13, 13⟩, [⟨0, 10, 17, 15⟩], eI, by rw [ht]; rfl, fun z hz => absurd hz List.not_mem_nil, by decide, by decide, kL_I, kE_I, fun a => ?_⟩
      refine A_astore C (pc := 13) (x := a) [] (by decide) [] rfl dL_closed_13 ?_
      refine A_iconst C (pc := 15) ic_1 dL_closed_15 ?_
      exact L_ri (o0 := o) (ov := none) C (pc := 16) hr hk rfl ⟨Nat.le_of_ble_eq_true rfl, Nat.le_of_ble_eq_true rfl⟩ dL_closed_16 hf
    rw [if_neg hE0] at hf
    by_cases hE1 : E = eA
    · rw [if_pos hE1] at hf
      subst hE1
      refine ⟨[⟨0, 10, 13, 13⟩], ⟨0, 10, 17, 15⟩, [], eA, by rw [ht]; rfl, fun z hz => by
        rcases List.mem_cons.mp hz with rfl | hz
        · exact Or.inr ⟨by decide, eI, kL_I, hX.2.1 _ (List.mem_of_getElem? (i := 0) rfl)⟩
        exact absurd hz List.not_mem_nil, by decide, by decide, kL_A, kE_A, fun a => ?_⟩
      refine A_astore C (pc := 17) (x := a) [] (by decide) [] rfl dL_closed_17 ?_
      refine A_iconst C (pc := 19) ic_2 dL_closed_19 ?_
      exact L_ri (o0 := o) (ov := none) C (pc := 20) hr hk rfl ⟨Nat.le_of_ble_eq_true rfl, Nat.le_of_ble_eq_true rfl⟩ dL_closed_20 hf
    rw [if_neg hE1] at hf
    cases hf
  · refine A_i2l C (pc := 8) dL_closed_8 ?_
    refine A_last C (pc := 9) dL_closed_9 ?_
    refine A_goto C (pc := 10) 21 (by decide) dL_closed_10 ?_
    refine A_iconst C (pc := 21) ic_0 dL_closed_21 ?_
    exact L_ri (o0 := o) (ov := some v5.toInt64) C (pc := 22) hr hk rfl ⟨Nat.le_of_ble_eq_true rfl, Nat.le_of_ble_eq_true rfl⟩ dL_closed_22 hf
set_option maxRecDepth 100000 in
theorem m_L_copy (l : Launch) (hl9 : l.stackTraces = false) (B : Nat) (D : va_G) (Y : Nat → ClassId) (o : Ou) {M : Mem} {x1 : Int32} {x2 : Int32} {r : Int32 × Mem × Option Int64} (hf : f_L_copy M x1 x2 = some r) : Met l yL_copy [Cond.codeWith yL_copy cL_copy 5 (some .int) [(0, 10, 13, 13)]] rm_L_copy (va_Pc [.ref (B + 0), .int x1, .int x2, .ref (B + 110)] (InvX B D Y M o)) (PQ B D Y r.2.1 (oo o r.2.2) (some (.int r.1))) 2 12 (fun q => B ≤ q) := by
  refine ofAtL (L0 := [(0, .ref (B + 0)), (1, .int x1), (2, .int x2), (3, .ref (B + 110))]) (by decide +kernel) (Nat.le_of_ble_eq_true rfl) rfl (fun p e s m args below meth c C hX hr hk ht => ?_)
  dsimp only [f_L_copy] at hf
  refine A_aload_n C (pc := 0) 3 rfl dL_copy_0 ?_
  refine A_iconst C (pc := 1) ic_0 dL_copy_1 ?_
  refine A_aload_n C (pc := 2) 0 rfl dL_copy_2 ?_
  refine A_iload_n C (pc := 3) 1 rfl dL_copy_3 ?_
  refine A_iload_n C (pc := 4) 2 rfl dL_copy_4 ?_
  obtain ⟨z5, h5, hf⟩ := bd_i hf
  refine L_callV C (pc := 5) hX (A := [.int x1, .int x2]) (rest := [.int 0, .ref (B + 110)]) kl_L_48 ky_X6_copy kv_X6_copy (m_X6_copy l hl9 B D Y o h5) (by decide) rfl rfl rfl rfl (Nat.le_of_ble_eq_true rfl) ⟨rfl, rfl, Nat.le_of_ble_eq_true rfl, Nat.le_of_ble_eq_true rfl⟩ ⟨Nat.le_of_ble_eq_true rfl, Nat.le_of_ble_eq_true rfl⟩ dL_copy_5 hf (fun E hf => ?_) (fun v5 hf => ?_)
  · by_cases hE0 : E = eI
    · rw [if_pos hE0] at hf
      subst hE0
      refine ⟨[], ⟨0, 10, 13, 13⟩, [], eI, by rw [ht]; rfl, fun z hz => absurd hz List.not_mem_nil, by decide, by decide, kL_I, kE_I, fun a => ?_⟩
      refine A_astore C (pc := 13) (x := a) [] (by decide) [] rfl dL_copy_13 ?_
      refine A_iconst C (pc := 15) ic_1 dL_copy_15 ?_
      exact L_ri (o0 := o) (ov := none) C (pc := 16) hr hk rfl ⟨Nat.le_of_ble_eq_true rfl, Nat.le_of_ble_eq_true rfl⟩ dL_copy_16 hf
    rw [if_neg hE0] at hf
    cases hf
  · refine A_i2l C (pc := 8) dL_copy_8 ?_
    refine A_last C (pc := 9) dL_copy_9 ?_
    refine A_goto C (pc := 10) 17 (by decide) dL_copy_10 ?_
    refine A_iconst C (pc := 17) ic_0 dL_copy_17 ?_
    exact L_ri (o0 := o) (ov := some v5.toInt64) C (pc := 18) hr hk rfl ⟨Nat.le_of_ble_eq_true rfl, Nat.le_of_ble_eq_true rfl⟩ dL_copy_18 hf
set_option maxRecDepth 100000 in
theorem m_L_drop (l : Launch) (hl9 : l.stackTraces = false) (B : Nat) (D : va_G) (Y : Nat → ClassId) (o : Ou) {M : Mem} {x1 : Int32} {x2 : Int32} {r : Int32 × Mem × Option Int64} (hf : f_L_drop M x1 x2 = some r) : Met l yL_drop [Cond.codeWith yL_drop cL_drop 5 (some .int) [(0, 10, 13, 13)]] rm_L_drop (va_Pc [.ref (B + 0), .int x1, .int x2, .ref (B + 110)] (InvX B D Y M o)) (PQ B D Y r.2.1 (oo o r.2.2) (some (.int r.1))) 2 12 (fun q => B ≤ q) := by
  refine ofAtL (L0 := [(0, .ref (B + 0)), (1, .int x1), (2, .int x2), (3, .ref (B + 110))]) (by decide +kernel) (Nat.le_of_ble_eq_true rfl) rfl (fun p e s m args below meth c C hX hr hk ht => ?_)
  dsimp only [f_L_drop] at hf
  refine A_aload_n C (pc := 0) 3 rfl dL_drop_0 ?_
  refine A_iconst C (pc := 1) ic_0 dL_drop_1 ?_
  refine A_aload_n C (pc := 2) 0 rfl dL_drop_2 ?_
  refine A_iload_n C (pc := 3) 1 rfl dL_drop_3 ?_
  refine A_iload_n C (pc := 4) 2 rfl dL_drop_4 ?_
  obtain ⟨z5, h5, hf⟩ := bd_i hf
  refine L_callV C (pc := 5) hX (A := [.int x1, .int x2]) (rest := [.int 0, .ref (B + 110)]) kl_L_25 ky_X6_drop kv_X6_drop (m_X6_drop l hl9 B D Y o h5) (by decide) rfl rfl rfl rfl (Nat.le_of_ble_eq_true rfl) ⟨rfl, rfl, Nat.le_of_ble_eq_true rfl, Nat.le_of_ble_eq_true rfl⟩ ⟨Nat.le_of_ble_eq_true rfl, Nat.le_of_ble_eq_true rfl⟩ dL_drop_5 hf (fun E hf => ?_) (fun v5 hf => ?_)
  · by_cases hE0 : E = eI
    · rw [if_pos hE0] at hf
      subst hE0
      refine ⟨[], ⟨0, 10, 13, 13⟩, [], eI, by rw [ht]; rfl, fun z hz => absurd hz List.not_mem_nil, by decide, by decide, kL_I, kE_I, fun a => ?_⟩
      refine A_astore C (pc := 13) (x := a) [] (by decide) [] rfl dL_drop_13 ?_
      refine A_iconst C (pc := 15) ic_1 dL_drop_15 ?_
      exact L_ri (o0 := o) (ov := none) C (pc := 16) hr hk rfl ⟨Nat.le_of_ble_eq_true rfl, Nat.le_of_ble_eq_true rfl⟩ dL_drop_16 hf
    rw [if_neg hE0] at hf
    cases hf
  · refine A_i2l C (pc := 8) dL_drop_8 ?_
    refine A_last C (pc := 9) dL_drop_9 ?_
    refine A_goto C (pc := 10) 17 (by decide) dL_drop_10 ?_
    refine A_iconst C (pc := 17) ic_0 dL_drop_17 ?_
    exact L_ri (o0 := o) (ov := some v5.toInt64) C (pc := 18) hr hk rfl ⟨Nat.le_of_ble_eq_true rfl, Nat.le_of_ble_eq_true rfl⟩ dL_drop_18 hf
set_option maxRecDepth 100000 in
theorem m_L_ends (l : Launch) (hl9 : l.stackTraces = false) (B : Nat) (D : va_G) (Y : Nat → ClassId) (o : Ou) {M : Mem} {x1 : Int32} {x2 : Int32} {r : Int32 × Mem × Option Int64} (hf : f_L_ends M x1 x2 = some r) : Met l yL_ends [Cond.codeWith yL_ends cL_ends 5 (some .int) [(0, 10, 13, 13)]] rm_L_ends (va_Pc [.ref (B + 0), .int x1, .int x2, .ref (B + 110)] (InvX B D Y M o)) (PQ B D Y r.2.1 (oo o r.2.2) (some (.int r.1))) 1 6 (fun q => B ≤ q) := by
  refine ofAtL (L0 := [(0, .ref (B + 0)), (1, .int x1), (2, .int x2), (3, .ref (B + 110))]) (by decide +kernel) (Nat.le_of_ble_eq_true rfl) rfl (fun p e s m args below meth c C hX hr hk ht => ?_)
  dsimp only [f_L_ends] at hf
  refine A_aload_n C (pc := 0) 3 rfl dL_ends_0 ?_
  refine A_iconst C (pc := 1) ic_0 dL_ends_1 ?_
  refine A_aload_n C (pc := 2) 0 rfl dL_ends_2 ?_
  refine A_iload_n C (pc := 3) 1 rfl dL_ends_3 ?_
  refine A_iload_n C (pc := 4) 2 rfl dL_ends_4 ?_
  obtain ⟨z5, h5, hf⟩ := bd_i hf
  refine L_callV C (pc := 5) hX (A := [.int x1, .int x2]) (rest := [.int 0, .ref (B + 110)]) kl_L_83 ky_X6_ends kv_X6_ends (m_X6_ends l hl9 B D Y o h5) (by decide) rfl rfl rfl rfl (Nat.le_of_ble_eq_true rfl) ⟨rfl, rfl, Nat.le_of_ble_eq_true rfl, Nat.le_of_ble_eq_true rfl⟩ ⟨Nat.le_of_ble_eq_true rfl, Nat.le_of_ble_eq_true rfl⟩ dL_ends_5 hf (fun E hf => ?_) (fun v5 hf => ?_)
  · by_cases hE0 : E = eI
    · rw [if_pos hE0] at hf
      subst hE0
      refine ⟨[], ⟨0, 10, 13, 13⟩, [], eI, by rw [ht]; rfl, fun z hz => absurd hz List.not_mem_nil, by decide, by decide, kL_I, kE_I, fun a => ?_⟩
      refine A_astore C (pc := 13) (x := a) [] (by decide) [] rfl dL_ends_13 ?_
      refine A_iconst C (pc := 15) ic_1 dL_ends_15 ?_
      exact L_ri (o0 := o) (ov := none) C (pc := 16) hr hk rfl ⟨Nat.le_of_ble_eq_true rfl, Nat.le_of_ble_eq_true rfl⟩ dL_ends_16 hf
    rw [if_neg hE0] at hf
    cases hf
  · refine A_i2l C (pc := 8) dL_ends_8 ?_
    refine A_last C (pc := 9) dL_ends_9 ?_
    refine A_goto C (pc := 10) 17 (by decide) dL_ends_10 ?_
    refine A_iconst C (pc := 17) ic_0 dL_ends_17 ?_
    exact L_ri (o0 := o) (ov := some v5.toInt64) C (pc := 18) hr hk rfl ⟨Nat.le_of_ble_eq_true rfl, Nat.le_of_ble_eq_true rfl⟩ dL_ends_18 hf
set_option maxRecDepth 100000 in
theorem m_L_fewestAparts (l : Launch) (hl9 : l.stackTraces = false) (B : Nat) (D : va_G) (Y : Nat → ClassId) (o : Ou) {M : Mem} {x1 : Int32} {r : Int32 × Mem × Option Int64} (hf : f_L_fewestAparts M x1 = some r) : Met l yL_fewestAparts [Cond.codeWith yL_fewestAparts cL_fewestAparts 4 (some .int) [(0, 9, 12, 13)]] rm_L_fewestAparts (va_Pc [.ref (B + 0), .int x1, .ref (B + 110)] (InvX B D Y M o)) (PQ B D Y r.2.1 (oo o r.2.2) (some (.int r.1))) 1 6 (fun q => B ≤ q) := by
  refine ofAtL (L0 := [(0, .ref (B + 0)), (1, .int x1), (2, .ref (B + 110))]) (by decide +kernel) (Nat.le_of_ble_eq_true rfl) rfl (fun p e s m args below meth c C hX hr hk ht => ?_)
  dsimp only [f_L_fewestAparts] at hf
  refine A_aload_n C (pc := 0) 2 rfl dL_fewestAparts_0 ?_
  refine A_iconst C (pc := 1) ic_0 dL_fewestAparts_1 ?_
  refine A_aload_n C (pc := 2) 0 rfl dL_fewestAparts_2 ?_
  refine A_iload_n C (pc := 3) 1 rfl dL_fewestAparts_3 ?_
  obtain ⟨z4, h4, hf⟩ := bd_i hf
  refine L_callV C (pc := 4) hX (A := [.int x1]) (rest := [.int 0, .ref (B + 110)]) kl_L_112 ky_X6_fewestAparts kv_X6_fewestAparts (m_X6_fewestAparts l hl9 B D Y o h4) (by decide) rfl rfl rfl rfl (Nat.le_of_ble_eq_true rfl) ⟨rfl, rfl, Nat.le_of_ble_eq_true rfl, Nat.le_of_ble_eq_true rfl⟩ ⟨Nat.le_of_ble_eq_true rfl, Nat.le_of_ble_eq_true rfl⟩ dL_fewestAparts_4 hf (fun E hf => ?_) (fun v4 hf => ?_)
  · by_cases hE0 : E = eI
    · rw [if_pos hE0] at hf
      subst hE0
      refine ⟨[], ⟨0, 9, 12, 13⟩, [], eI, by rw [ht]; rfl, fun z hz => absurd hz List.not_mem_nil, by decide, by decide, kL_I, kE_I, fun a => ?_⟩
      refine A_astore_n C (pc := 12) (x := a) [] rfl (by decide) [] rfl dL_fewestAparts_12 ?_
      refine A_iconst C (pc := 13) ic_1 dL_fewestAparts_13 ?_
      exact L_ri (o0 := o) (ov := none) C (pc := 14) hr hk rfl ⟨Nat.le_of_ble_eq_true rfl, Nat.le_of_ble_eq_true rfl⟩ dL_fewestAparts_14 hf
    rw [if_neg hE0] at hf
    cases hf
  · refine A_i2l C (pc := 7) dL_fewestAparts_7 ?_
    refine A_last C (pc := 8) dL_fewestAparts_8 ?_
    refine A_goto C (pc := 9) 15 (by decide) dL_fewestAparts_9 ?_
    refine A_iconst C (pc := 15) ic_0 dL_fewestAparts_15 ?_
    exact L_ri (o0 := o) (ov := some v4.toInt64) C (pc := 16) hr hk rfl ⟨Nat.le_of_ble_eq_true rfl, Nat.le_of_ble_eq_true rfl⟩ dL_fewestAparts_16 hf
set_option maxRecDepth 100000 in
theorem m_L_fewestChains (l : Launch) (hl9 : l.stackTraces = false) (B : Nat) (D : va_G) (Y : Nat → ClassId) (o : Ou) {M : Mem} {x1 : Int32} {r : Int32 × Mem × Option Int64} (hf : f_L_fewestChains M x1 = some r) : Met l yL_fewestChains [Cond.codeWith yL_fewestChains cL_fewestChains 4 (some .int) [(0, 9, 12, 13)]] rm_L_fewestChains (va_Pc [.ref (B + 0), .int x1, .ref (B + 110)] (InvX B D Y M o)) (PQ B D Y r.2.1 (oo o r.2.2) (some (.int r.1))) 1 6 (fun q => B ≤ q) := by
  refine ofAtL (L0 := [(0, .ref (B + 0)), (1, .int x1), (2, .ref (B + 110))]) (by decide +kernel) (Nat.le_of_ble_eq_true rfl) rfl (fun p e s m args below meth c C hX hr hk ht => ?_)
  dsimp only [f_L_fewestChains] at hf
  refine A_aload_n C (pc := 0) 2 rfl dL_fewestChains_0 ?_
  refine A_iconst C (pc := 1) ic_0 dL_fewestChains_1 ?_
  refine A_aload_n C (pc := 2) 0 rfl dL_fewestChains_2 ?_
  refine A_iload_n C (pc := 3) 1 rfl dL_fewestChains_3 ?_
  obtain ⟨z4, h4, hf⟩ := bd_i hf
  refine L_callV C (pc := 4) hX (A := [.int x1]) (rest := [.int 0, .ref (B + 110)]) kl_L_109 ky_X6_fewestChains kv_X6_fewestChains (m_X6_fewestChains l hl9 B D Y o h4) (by decide) rfl rfl rfl rfl (Nat.le_of_ble_eq_true rfl) ⟨rfl, rfl, Nat.le_of_ble_eq_true rfl, Nat.le_of_ble_eq_true rfl⟩ ⟨Nat.le_of_ble_eq_true rfl, Nat.le_of_ble_eq_true rfl⟩ dL_fewestChains_4 hf (fun E hf => ?_) (fun v4 hf => ?_)
  · by_cases hE0 : E = eI
    · rw [if_pos hE0] at hf
      subst hE0
      refine ⟨[], ⟨0, 9, 12, 13⟩, [], eI, by rw [ht]; rfl, fun z hz => absurd hz List.not_mem_nil, by decide, by decide, kL_I, kE_I, fun a => ?_⟩
      refine A_astore_n C (pc := 12) (x := a) [] rfl (by decide) [] rfl dL_fewestChains_12 ?_
      refine A_iconst C (pc := 13) ic_1 dL_fewestChains_13 ?_
      exact L_ri (o0 := o) (ov := none) C (pc := 14) hr hk rfl ⟨Nat.le_of_ble_eq_true rfl, Nat.le_of_ble_eq_true rfl⟩ dL_fewestChains_14 hf
    rw [if_neg hE0] at hf
    cases hf
  · refine A_i2l C (pc := 7) dL_fewestChains_7 ?_
    refine A_last C (pc := 8) dL_fewestChains_8 ?_
    refine A_goto C (pc := 9) 15 (by decide) dL_fewestChains_9 ?_
    refine A_iconst C (pc := 15) ic_0 dL_fewestChains_15 ?_
    exact L_ri (o0 := o) (ov := some v4.toInt64) C (pc := 16) hr hk rfl ⟨Nat.le_of_ble_eq_true rfl, Nat.le_of_ble_eq_true rfl⟩ dL_fewestChains_16 hf
set_option maxRecDepth 100000 in
theorem m_L_inner (l : Launch) (hl9 : l.stackTraces = false) (B : Nat) (D : va_G) (Y : Nat → ClassId) (o : Ou) {M : Mem} {x1 : Int32} {x2 : Int32} {r : Int32 × Mem × Option Int64} (hf : f_L_inner M x1 x2 = some r) : Met l yL_inner [Cond.codeWith yL_inner cL_inner 5 (some .int) [(0, 10, 13, 13), (0, 10, 17, 15)]] rm_L_inner (va_Pc [.ref (B + 0), .int x1, .int x2, .ref (B + 110)] (InvX B D Y M o)) (PQ B D Y r.2.1 (oo o r.2.2) (some (.int r.1))) 2 12 (fun q => B ≤ q) := by
  refine ofAtL (L0 := [(0, .ref (B + 0)), (1, .int x1), (2, .int x2), (3, .ref (B + 110))]) (by decide +kernel) (Nat.le_of_ble_eq_true rfl) rfl (fun p e s m args below meth c C hX hr hk ht => ?_)
  dsimp only [f_L_inner] at hf
  refine A_aload_n C (pc := 0) 3 rfl dL_inner_0 ?_
  refine A_iconst C (pc := 1) ic_0 dL_inner_1 ?_
  refine A_aload_n C (pc := 2) 0 rfl dL_inner_2 ?_
  refine A_iload_n C (pc := 3) 1 rfl dL_inner_3 ?_
  refine A_iload_n C (pc := 4) 2 rfl dL_inner_4 ?_
  obtain ⟨z5, h5, hf⟩ := bd_i hf
  refine L_callV C (pc := 5) hX (A := [.int x1, .int x2]) (rest := [.int 0, .ref (B + 110)]) kl_L_137 ky_X6_inner kv_X6_inner (m_X6_inner l hl9 B D Y o h5) (by decide) rfl rfl rfl rfl (Nat.le_of_ble_eq_true rfl) ⟨rfl, rfl, Nat.le_of_ble_eq_true rfl, Nat.le_of_ble_eq_true rfl⟩ ⟨Nat.le_of_ble_eq_true rfl, Nat.le_of_ble_eq_true rfl⟩ dL_inner_5 hf (fun E hf => ?_) (fun v5 hf => ?_)
  · by_cases hE0 : E = eI
    · rw [if_pos hE0] at hf
      subst hE0
      refine ⟨[], ⟨0, 10, 13, 13⟩, [⟨0, 10, 17, 15⟩], eI, by rw [ht]; rfl, fun z hz => absurd hz List.not_mem_nil, by decide, by decide, kL_I, kE_I, fun a => ?_⟩
      refine A_astore C (pc := 13) (x := a) [] (by decide) [] rfl dL_inner_13 ?_
      refine A_iconst C (pc := 15) ic_1 dL_inner_15 ?_
      exact L_ri (o0 := o) (ov := none) C (pc := 16) hr hk rfl ⟨Nat.le_of_ble_eq_true rfl, Nat.le_of_ble_eq_true rfl⟩ dL_inner_16 hf
    rw [if_neg hE0] at hf
    by_cases hE1 : E = eA
    · rw [if_pos hE1] at hf
      subst hE1
      refine ⟨[⟨0, 10, 13, 13⟩], ⟨0, 10, 17, 15⟩, [], eA, by rw [ht]; rfl, fun z hz => by
        rcases List.mem_cons.mp hz with rfl | hz
        · exact Or.inr ⟨by decide, eI, kL_I, hX.2.1 _ (List.mem_of_getElem? (i := 0) rfl)⟩
        exact absurd hz List.not_mem_nil, by decide, by decide, kL_A, kE_A, fun a => ?_⟩
      refine A_astore C (pc := 17) (x := a) [] (by decide) [] rfl dL_inner_17 ?_
      refine A_iconst C (pc := 19) ic_2 dL_inner_19 ?_
      exact L_ri (o0 := o) (ov := none) C (pc := 20) hr hk rfl ⟨Nat.le_of_ble_eq_true rfl, Nat.le_of_ble_eq_true rfl⟩ dL_inner_20 hf
    rw [if_neg hE1] at hf
    cases hf
  · refine A_i2l C (pc := 8) dL_inner_8 ?_
    refine A_last C (pc := 9) dL_inner_9 ?_
    refine A_goto C (pc := 10) 21 (by decide) dL_inner_10 ?_
    refine A_iconst C (pc := 21) ic_0 dL_inner_21 ?_
    exact L_ri (o0 := o) (ov := some v5.toInt64) C (pc := 22) hr hk rfl ⟨Nat.le_of_ble_eq_true rfl, Nat.le_of_ble_eq_true rfl⟩ dL_inner_22 hf
set_option maxRecDepth 100000 in
theorem m_L_isApart (l : Launch) (hl9 : l.stackTraces = false) (B : Nat) (D : va_G) (Y : Nat → ClassId) (o : Ou) {M : Mem} {x1 : Int32} {x2 : Int32} {r : Int32 × Mem × Option Int64} (hf : f_L_isApart M x1 x2 = some r) : Met l yL_isApart [Cond.codeWith yL_isApart cL_isApart 5 (some .int) [(0, 17, 20, 13), (0, 17, 24, 15)]] rm_L_isApart (va_Pc [.ref (B + 0), .int x1, .int x2, .ref (B + 110)] (InvX B D Y M o)) (PQ B D Y r.2.1 (oo o r.2.2) (some (.int r.1))) 2 12 (fun q => B ≤ q) := by
  refine ofAtL (L0 := [(0, .ref (B + 0)), (1, .int x1), (2, .int x2), (3, .ref (B + 110))]) (by decide +kernel) (Nat.le_of_ble_eq_true rfl) rfl (fun p e s m args below meth c C hX hr hk ht => ?_)
  dsimp only [f_L_isApart] at hf
  refine A_aload_n C (pc := 0) 3 rfl dL_isApart_0 ?_
  refine A_iconst C (pc := 1) ic_0 dL_isApart_1 ?_
  refine A_aload_n C (pc := 2) 0 rfl dL_isApart_2 ?_
  refine A_iload_n C (pc := 3) 1 rfl dL_isApart_3 ?_
  refine A_iload_n C (pc := 4) 2 rfl dL_isApart_4 ?_
  obtain ⟨z5, h5, hf⟩ := bd_i hf
  refine L_callV C (pc := 5) hX (A := [.int x1, .int x2]) (rest := [.int 0, .ref (B + 110)]) kl_L_97 ky_X6_isApart kv_X6_isApart (m_X6_isApart l hl9 B D Y o h5) (by decide) rfl rfl rfl rfl (Nat.le_of_ble_eq_true rfl) ⟨rfl, rfl, Nat.le_of_ble_eq_true rfl, Nat.le_of_ble_eq_true rfl⟩ ⟨Nat.le_of_ble_eq_true rfl, Nat.le_of_ble_eq_true rfl⟩ dL_isApart_5 hf (fun E hf => ?_) (fun v5 hf => ?_)
  · by_cases hE0 : E = eI
    · rw [if_pos hE0] at hf
      subst hE0
      refine ⟨[], ⟨0, 17, 20, 13⟩, [⟨0, 17, 24, 15⟩], eI, by rw [ht]; rfl, fun z hz => absurd hz List.not_mem_nil, by decide, by decide, kL_I, kE_I, fun a => ?_⟩
      refine A_astore C (pc := 20) (x := a) [] (by decide) [] rfl dL_isApart_20 ?_
      refine A_iconst C (pc := 22) ic_1 dL_isApart_22 ?_
      exact L_ri (o0 := o) (ov := none) C (pc := 23) hr hk rfl ⟨Nat.le_of_ble_eq_true rfl, Nat.le_of_ble_eq_true rfl⟩ dL_isApart_23 hf
    rw [if_neg hE0] at hf
    by_cases hE1 : E = eA
    · rw [if_pos hE1] at hf
      subst hE1
      refine ⟨[⟨0, 17, 20, 13⟩], ⟨0, 17, 24, 15⟩, [], eA, by rw [ht]; rfl, fun z hz => by
        rcases List.mem_cons.mp hz with rfl | hz
        · exact Or.inr ⟨by decide, eI, kL_I, hX.2.1 _ (List.mem_of_getElem? (i := 0) rfl)⟩
        exact absurd hz List.not_mem_nil, by decide, by decide, kL_A, kE_A, fun a => ?_⟩
      refine A_astore C (pc := 24) (x := a) [] (by decide) [] rfl dL_isApart_24 ?_
      refine A_iconst C (pc := 26) ic_2 dL_isApart_26 ?_
      exact L_ri (o0 := o) (ov := none) C (pc := 27) hr hk rfl ⟨Nat.le_of_ble_eq_true rfl, Nat.le_of_ble_eq_true rfl⟩ dL_isApart_27 hf
    rw [if_neg hE1] at hf
    cases hf
  · refine A_if_eq C (pc := 8) 15 (by decide) dL_isApart_8 hf (fun _ hf => ?_) (fun _ hf => ?_)
    · refine A_lconst C (pc := 15) (v := 0) (by decide) dL_isApart_15 ?_
      refine A_last C (pc := 16) dL_isApart_16 ?_
      refine A_goto C (pc := 17) 28 (by decide) dL_isApart_17 ?_
      refine A_iconst C (pc := 28) ic_0 dL_isApart_28 ?_
      exact L_ri (o0 := o) (ov := some 0) C (pc := 29) hr hk rfl ⟨Nat.le_of_ble_eq_true rfl, Nat.le_of_ble_eq_true rfl⟩ dL_isApart_29 hf
    · refine A_lconst C (pc := 11) (v := 1) (by decide) dL_isApart_11 ?_
      refine A_goto C (pc := 12) 16 (by decide) dL_isApart_12 ?_
      refine A_last C (pc := 16) dL_isApart_16 ?_
      refine A_goto C (pc := 17) 28 (by decide) dL_isApart_17 ?_
      refine A_iconst C (pc := 28) ic_0 dL_isApart_28 ?_
      exact L_ri (o0 := o) (ov := some 1) C (pc := 29) hr hk rfl ⟨Nat.le_of_ble_eq_true rfl, Nat.le_of_ble_eq_true rfl⟩ dL_isApart_29 hf
set_option maxRecDepth 100000 in
theorem m_L_isChain (l : Launch) (hl9 : l.stackTraces = false) (B : Nat) (D : va_G) (Y : Nat → ClassId) (o : Ou) {M : Mem} {x1 : Int32} {x2 : Int32} {r : Int32 × Mem × Option Int64} (hf : f_L_isChain M x1 x2 = some r) : Met l yL_isChain [Cond.codeWith yL_isChain cL_isChain 5 (some .int) [(0, 17, 20, 13), (0, 17, 24, 15)]] rm_L_isChain (va_Pc [.ref (B + 0), .int x1, .int x2, .ref (B + 110)] (InvX B D Y M o)) (PQ B D Y r.2.1 (oo o r.2.2) (some (.int r.1))) 2 12 (fun q => B ≤ q) := by
  refine ofAtL (L0 := [(0, .ref (B + 0)), (1, .int x1), (2, .int x2), (3, .ref (B + 110))]) (by decide +kernel) (Nat.le_of_ble_eq_true rfl) rfl (fun p e s m args below meth c C hX hr hk ht => ?_)
  dsimp only [f_L_isChain] at hf
  refine A_aload_n C (pc := 0) 3 rfl dL_isChain_0 ?_
  refine A_iconst C (pc := 1) ic_0 dL_isChain_1 ?_
  refine A_aload_n C (pc := 2) 0 rfl dL_isChain_2 ?_
  refine A_iload_n C (pc := 3) 1 rfl dL_isChain_3 ?_
  refine A_iload_n C (pc := 4) 2 rfl dL_isChain_4 ?_
  obtain ⟨z5, h5, hf⟩ := bd_i hf
  refine L_callV C (pc := 5) hX (A := [.int x1, .int x2]) (rest := [.int 0, .ref (B + 110)]) kl_L_94 ky_X6_isChain kv_X6_isChain (m_X6_isChain l hl9 B D Y o h5) (by decide) rfl rfl rfl rfl (Nat.le_of_ble_eq_true rfl) ⟨rfl, rfl, Nat.le_of_ble_eq_true rfl, Nat.le_of_ble_eq_true rfl⟩ ⟨Nat.le_of_ble_eq_true rfl, Nat.le_of_ble_eq_true rfl⟩ dL_isChain_5 hf (fun E hf => ?_) (fun v5 hf => ?_)
  · by_cases hE0 : E = eI
    · rw [if_pos hE0] at hf
      subst hE0
      refine ⟨[], ⟨0, 17, 20, 13⟩, [⟨0, 17, 24, 15⟩], eI, by rw [ht]; rfl, fun z hz => absurd hz List.not_mem_nil, by decide, by decide, kL_I, kE_I, fun a => ?_⟩
      refine A_astore C (pc := 20) (x := a) [] (by decide) [] rfl dL_isChain_20 ?_
      refine A_iconst C (pc := 22) ic_1 dL_isChain_22 ?_
      exact L_ri (o0 := o) (ov := none) C (pc := 23) hr hk rfl ⟨Nat.le_of_ble_eq_true rfl, Nat.le_of_ble_eq_true rfl⟩ dL_isChain_23 hf
    rw [if_neg hE0] at hf
    by_cases hE1 : E = eA
    · rw [if_pos hE1] at hf
      subst hE1
      refine ⟨[⟨0, 17, 20, 13⟩], ⟨0, 17, 24, 15⟩, [], eA, by rw [ht]; rfl, fun z hz => by
        rcases List.mem_cons.mp hz with rfl | hz
        · exact Or.inr ⟨by decide, eI, kL_I, hX.2.1 _ (List.mem_of_getElem? (i := 0) rfl)⟩
        exact absurd hz List.not_mem_nil, by decide, by decide, kL_A, kE_A, fun a => ?_⟩
      refine A_astore C (pc := 24) (x := a) [] (by decide) [] rfl dL_isChain_24 ?_
      refine A_iconst C (pc := 26) ic_2 dL_isChain_26 ?_
      exact L_ri (o0 := o) (ov := none) C (pc := 27) hr hk rfl ⟨Nat.le_of_ble_eq_true rfl, Nat.le_of_ble_eq_true rfl⟩ dL_isChain_27 hf
    rw [if_neg hE1] at hf
    cases hf
  · refine A_if_eq C (pc := 8) 15 (by decide) dL_isChain_8 hf (fun _ hf => ?_) (fun _ hf => ?_)
    · refine A_lconst C (pc := 15) (v := 0) (by decide) dL_isChain_15 ?_
      refine A_last C (pc := 16) dL_isChain_16 ?_
      refine A_goto C (pc := 17) 28 (by decide) dL_isChain_17 ?_
      refine A_iconst C (pc := 28) ic_0 dL_isChain_28 ?_
      exact L_ri (o0 := o) (ov := some 0) C (pc := 29) hr hk rfl ⟨Nat.le_of_ble_eq_true rfl, Nat.le_of_ble_eq_true rfl⟩ dL_isChain_29 hf
    · refine A_lconst C (pc := 11) (v := 1) (by decide) dL_isChain_11 ?_
      refine A_goto C (pc := 12) 16 (by decide) dL_isChain_12 ?_
      refine A_last C (pc := 16) dL_isChain_16 ?_
      refine A_goto C (pc := 17) 28 (by decide) dL_isChain_17 ?_
      refine A_iconst C (pc := 28) ic_0 dL_isChain_28 ?_
      exact L_ri (o0 := o) (ov := some 1) C (pc := 29) hr hk rfl ⟨Nat.le_of_ble_eq_true rfl, Nat.le_of_ble_eq_true rfl⟩ dL_isChain_29 hf
set_option maxRecDepth 100000 in
theorem m_L_isNext (l : Launch) (hl9 : l.stackTraces = false) (B : Nat) (D : va_G) (Y : Nat → ClassId) (o : Ou) {M : Mem} {x1 : Int32} {x2 : Int32} {x3 : Int32} {r : Int32 × Mem × Option Int64} (hf : f_L_isNext M x1 x2 x3 = some r) : Met l yL_isNext [Cond.codeWith yL_isNext cL_isNext 6 (some .int) [(0, 19, 22, 13)]] rm_L_isNext (va_Pc [.ref (B + 0), .int x1, .int x2, .int x3, .ref (B + 110)] (InvX B D Y M o)) (PQ B D Y r.2.1 (oo o r.2.2) (some (.int r.1))) 3 18 (fun q => B ≤ q) := by
  refine ofAtL (L0 := [(0, .ref (B + 0)), (1, .int x1), (2, .int x2), (3, .int x3), (4, .ref (B + 110))]) (by decide +kernel) (Nat.le_of_ble_eq_true rfl) rfl (fun p e s m args below meth c C hX hr hk ht => ?_)
  dsimp only [f_L_isNext] at hf
  refine A_aload C (pc := 0) 4 rfl dL_isNext_0 ?_
  refine A_iconst C (pc := 2) ic_0 dL_isNext_2 ?_
  refine A_aload_n C (pc := 3) 0 rfl dL_isNext_3 ?_
  refine A_iload_n C (pc := 4) 1 rfl dL_isNext_4 ?_
  refine A_iload_n C (pc := 5) 2 rfl dL_isNext_5 ?_
  refine A_iload_n C (pc := 6) 3 rfl dL_isNext_6 ?_
  obtain ⟨z7, h7, hf⟩ := bd_i hf
  refine L_callV C (pc := 7) hX (A := [.int x1, .int x2, .int x3]) (rest := [.int 0, .ref (B + 110)]) kl_L_73 ky_X6_isNext kv_X6_isNext (m_X6_isNext l hl9 B D Y o h7) (by decide) rfl rfl rfl rfl (Nat.le_of_ble_eq_true rfl) ⟨rfl, rfl, Nat.le_of_ble_eq_true rfl, Nat.le_of_ble_eq_true rfl⟩ ⟨Nat.le_of_ble_eq_true rfl, Nat.le_of_ble_eq_true rfl⟩ dL_isNext_7 hf (fun E hf => ?_) (fun v7 hf => ?_)
  · by_cases hE0 : E = eI
    · rw [if_pos hE0] at hf
      subst hE0
      refine ⟨[], ⟨0, 19, 22, 13⟩, [], eI, by rw [ht]; rfl, fun z hz => absurd hz List.not_mem_nil, by decide, by decide, kL_I, kE_I, fun a => ?_⟩
      refine A_astore C (pc := 22) (x := a) [] (by decide) [] rfl dL_isNext_22 ?_
      refine A_iconst C (pc := 24) ic_1 dL_isNext_24 ?_
      exact L_ri (o0 := o) (ov := none) C (pc := 25) hr hk rfl ⟨Nat.le_of_ble_eq_true rfl, Nat.le_of_ble_eq_true rfl⟩ dL_isNext_25 hf
    rw [if_neg hE0] at hf
    cases hf
  · refine A_if_eq C (pc := 10) 17 (by decide) dL_isNext_10 hf (fun _ hf => ?_) (fun _ hf => ?_)
    · refine A_lconst C (pc := 17) (v := 0) (by decide) dL_isNext_17 ?_
      refine A_last C (pc := 18) dL_isNext_18 ?_
      refine A_goto C (pc := 19) 26 (by decide) dL_isNext_19 ?_
      refine A_iconst C (pc := 26) ic_0 dL_isNext_26 ?_
      exact L_ri (o0 := o) (ov := some 0) C (pc := 27) hr hk rfl ⟨Nat.le_of_ble_eq_true rfl, Nat.le_of_ble_eq_true rfl⟩ dL_isNext_27 hf
    · refine A_lconst C (pc := 13) (v := 1) (by decide) dL_isNext_13 ?_
      refine A_goto C (pc := 14) 18 (by decide) dL_isNext_14 ?_
      refine A_last C (pc := 18) dL_isNext_18 ?_
      refine A_goto C (pc := 19) 26 (by decide) dL_isNext_19 ?_
      refine A_iconst C (pc := 26) ic_0 dL_isNext_26 ?_
      exact L_ri (o0 := o) (ov := some 1) C (pc := 27) hr hk rfl ⟨Nat.le_of_ble_eq_true rfl, Nat.le_of_ble_eq_true rfl⟩ dL_isNext_27 hf
set_option maxRecDepth 100000 in
theorem m_L_isSame (l : Launch) (hl9 : l.stackTraces = false) (B : Nat) (D : va_G) (Y : Nat → ClassId) (o : Ou) {M : Mem} {x1 : Int32} {x2 : Int32} {r : Int32 × Mem × Option Int64} (hf : f_L_isSame M x1 x2 = some r) : Met l yL_isSame [Cond.codeWith yL_isSame cL_isSame 5 (some .int) [(0, 17, 20, 13)]] rm_L_isSame (va_Pc [.ref (B + 0), .int x1, .int x2, .ref (B + 110)] (InvX B D Y M o)) (PQ B D Y r.2.1 (oo o r.2.2) (some (.int r.1))) 2 12 (fun q => B ≤ q) := by
  refine ofAtL (L0 := [(0, .ref (B + 0)), (1, .int x1), (2, .int x2), (3, .ref (B + 110))]) (by decide +kernel) (Nat.le_of_ble_eq_true rfl) rfl (fun p e s m args below meth c C hX hr hk ht => ?_)
  dsimp only [f_L_isSame] at hf
  refine A_aload_n C (pc := 0) 3 rfl dL_isSame_0 ?_
  refine A_iconst C (pc := 1) ic_0 dL_isSame_1 ?_
  refine A_aload_n C (pc := 2) 0 rfl dL_isSame_2 ?_
  refine A_iload_n C (pc := 3) 1 rfl dL_isSame_3 ?_
  refine A_iload_n C (pc := 4) 2 rfl dL_isSame_4 ?_
  obtain ⟨z5, h5, hf⟩ := bd_i hf
  refine L_callV C (pc := 5) hX (A := [.int x1, .int x2]) (rest := [.int 0, .ref (B + 110)]) kl_L_90 ky_X6_isSame kv_X6_isSame (m_X6_isSame l hl9 B D Y o h5) (by decide) rfl rfl rfl rfl (Nat.le_of_ble_eq_true rfl) ⟨rfl, rfl, Nat.le_of_ble_eq_true rfl, Nat.le_of_ble_eq_true rfl⟩ ⟨Nat.le_of_ble_eq_true rfl, Nat.le_of_ble_eq_true rfl⟩ dL_isSame_5 hf (fun E hf => ?_) (fun v5 hf => ?_)
  · by_cases hE0 : E = eI
    · rw [if_pos hE0] at hf
      subst hE0
      refine ⟨[], ⟨0, 17, 20, 13⟩, [], eI, by rw [ht]; rfl, fun z hz => absurd hz List.not_mem_nil, by decide, by decide, kL_I, kE_I, fun a => ?_⟩
      refine A_astore C (pc := 20) (x := a) [] (by decide) [] rfl dL_isSame_20 ?_
      refine A_iconst C (pc := 22) ic_1 dL_isSame_22 ?_
      exact L_ri (o0 := o) (ov := none) C (pc := 23) hr hk rfl ⟨Nat.le_of_ble_eq_true rfl, Nat.le_of_ble_eq_true rfl⟩ dL_isSame_23 hf
    rw [if_neg hE0] at hf
    cases hf
  · refine A_if_eq C (pc := 8) 15 (by decide) dL_isSame_8 hf (fun _ hf => ?_) (fun _ hf => ?_)
    · refine A_lconst C (pc := 15) (v := 0) (by decide) dL_isSame_15 ?_
      refine A_last C (pc := 16) dL_isSame_16 ?_
      refine A_goto C (pc := 17) 24 (by decide) dL_isSame_17 ?_
      refine A_iconst C (pc := 24) ic_0 dL_isSame_24 ?_
      exact L_ri (o0 := o) (ov := some 0) C (pc := 25) hr hk rfl ⟨Nat.le_of_ble_eq_true rfl, Nat.le_of_ble_eq_true rfl⟩ dL_isSame_25 hf
    · refine A_lconst C (pc := 11) (v := 1) (by decide) dL_isSame_11 ?_
      refine A_goto C (pc := 12) 16 (by decide) dL_isSame_12 ?_
      refine A_last C (pc := 16) dL_isSame_16 ?_
      refine A_goto C (pc := 17) 24 (by decide) dL_isSame_17 ?_
      refine A_iconst C (pc := 24) ic_0 dL_isSame_24 ?_
      exact L_ri (o0 := o) (ov := some 1) C (pc := 25) hr hk rfl ⟨Nat.le_of_ble_eq_true rfl, Nat.le_of_ble_eq_true rfl⟩ dL_isSame_25 hf
set_option maxRecDepth 100000 in
theorem m_L_isSound (l : Launch) (hl9 : l.stackTraces = false) (B : Nat) (D : va_G) (Y : Nat → ClassId) (o : Ou) {M : Mem} {x1 : Int32} {r : Int32 × Mem × Option Int64} (hf : f_L_isSound M x1 = some r) : Met l yL_isSound [Cond.codeWith yL_isSound cL_isSound 4 (some .int) [(0, 16, 19, 13)]] rm_L_isSound (va_Pc [.ref (B + 0), .int x1, .ref (B + 110)] (InvX B D Y M o)) (PQ B D Y r.2.1 (oo o r.2.2) (some (.int r.1))) 1 6 (fun q => B ≤ q) := by
  refine ofAtL (L0 := [(0, .ref (B + 0)), (1, .int x1), (2, .ref (B + 110))]) (by decide +kernel) (Nat.le_of_ble_eq_true rfl) rfl (fun p e s m args below meth c C hX hr hk ht => ?_)
  dsimp only [f_L_isSound] at hf
  refine A_aload_n C (pc := 0) 2 rfl dL_isSound_0 ?_
  refine A_iconst C (pc := 1) ic_0 dL_isSound_1 ?_
  refine A_aload_n C (pc := 2) 0 rfl dL_isSound_2 ?_
  refine A_iload_n C (pc := 3) 1 rfl dL_isSound_3 ?_
  obtain ⟨z4, h4, hf⟩ := bd_i hf
  refine L_callV C (pc := 4) hX (A := [.int x1]) (rest := [.int 0, .ref (B + 110)]) kl_L_181 ky_X6_isSound kv_X6_isSound (m_X6_isSound l hl9 B D Y o h4) (by decide) rfl rfl rfl rfl (Nat.le_of_ble_eq_true rfl) ⟨rfl, rfl, Nat.le_of_ble_eq_true rfl, Nat.le_of_ble_eq_true rfl⟩ ⟨Nat.le_of_ble_eq_true rfl, Nat.le_of_ble_eq_true rfl⟩ dL_isSound_4 hf (fun E hf => ?_) (fun v4 hf => ?_)
  · by_cases hE0 : E = eI
    · rw [if_pos hE0] at hf
      subst hE0
      refine ⟨[], ⟨0, 16, 19, 13⟩, [], eI, by rw [ht]; rfl, fun z hz => absurd hz List.not_mem_nil, by decide, by decide, kL_I, kE_I, fun a => ?_⟩
      refine A_astore_n C (pc := 19) (x := a) [] rfl (by decide) [] rfl dL_isSound_19 ?_
      refine A_iconst C (pc := 20) ic_1 dL_isSound_20 ?_
      exact L_ri (o0 := o) (ov := none) C (pc := 21) hr hk rfl ⟨Nat.le_of_ble_eq_true rfl, Nat.le_of_ble_eq_true rfl⟩ dL_isSound_21 hf
    rw [if_neg hE0] at hf
    cases hf
  · refine A_if_eq C (pc := 7) 14 (by decide) dL_isSound_7 hf (fun _ hf => ?_) (fun _ hf => ?_)
    · refine A_lconst C (pc := 14) (v := 0) (by decide) dL_isSound_14 ?_
      refine A_last C (pc := 15) dL_isSound_15 ?_
      refine A_goto C (pc := 16) 22 (by decide) dL_isSound_16 ?_
      refine A_iconst C (pc := 22) ic_0 dL_isSound_22 ?_
      exact L_ri (o0 := o) (ov := some 0) C (pc := 23) hr hk rfl ⟨Nat.le_of_ble_eq_true rfl, Nat.le_of_ble_eq_true rfl⟩ dL_isSound_23 hf
    · refine A_lconst C (pc := 10) (v := 1) (by decide) dL_isSound_10 ?_
      refine A_goto C (pc := 11) 15 (by decide) dL_isSound_11 ?_
      refine A_last C (pc := 15) dL_isSound_15 ?_
      refine A_goto C (pc := 16) 22 (by decide) dL_isSound_16 ?_
      refine A_iconst C (pc := 22) ic_0 dL_isSound_22 ?_
      exact L_ri (o0 := o) (ov := some 1) C (pc := 23) hr hk rfl ⟨Nat.le_of_ble_eq_true rfl, Nat.le_of_ble_eq_true rfl⟩ dL_isSound_23 hf
set_option maxRecDepth 100000 in
theorem m_L_keep (l : Launch) (hl9 : l.stackTraces = false) (B : Nat) (D : va_G) (Y : Nat → ClassId) (o : Ou) {M : Mem} {x1 : Int32} {x2 : Int32} {r : Int32 × Mem × Option Int64} (hf : f_L_keep M x1 x2 = some r) : Met l yL_keep [Cond.codeWith yL_keep cL_keep 5 (some .int) [(0, 10, 13, 13), (0, 10, 17, 15)]] rm_L_keep (va_Pc [.ref (B + 0), .int x1, .int x2, .ref (B + 110)] (InvX B D Y M o)) (PQ B D Y r.2.1 (oo o r.2.2) (some (.int r.1))) 2 12 (fun q => B ≤ q) := by
  refine ofAtL (L0 := [(0, .ref (B + 0)), (1, .int x1), (2, .int x2), (3, .ref (B + 110))]) (by decide +kernel) (Nat.le_of_ble_eq_true rfl) rfl (fun p e s m args below meth c C hX hr hk ht => ?_)
  dsimp only [f_L_keep] at hf
  refine A_aload_n C (pc := 0) 3 rfl dL_keep_0 ?_
  refine A_iconst C (pc := 1) ic_0 dL_keep_1 ?_
  refine A_aload_n C (pc := 2) 0 rfl dL_keep_2 ?_
  refine A_iload_n C (pc := 3) 1 rfl dL_keep_3 ?_
  refine A_iload_n C (pc := 4) 2 rfl dL_keep_4 ?_
  obtain ⟨z5, h5, hf⟩ := bd_i hf
  refine L_callV C (pc := 5) hX (A := [.int x1, .int x2]) (rest := [.int 0, .ref (B + 110)]) kl_L_28 ky_X6_keep kv_X6_keep (m_X6_keep l hl9 B D Y o h5) (by decide) rfl rfl rfl rfl (Nat.le_of_ble_eq_true rfl) ⟨rfl, rfl, Nat.le_of_ble_eq_true rfl, Nat.le_of_ble_eq_true rfl⟩ ⟨Nat.le_of_ble_eq_true rfl, Nat.le_of_ble_eq_true rfl⟩ dL_keep_5 hf (fun E hf => ?_) (fun v5 hf => ?_)
  · by_cases hE0 : E = eI
    · rw [if_pos hE0] at hf
      subst hE0
      refine ⟨[], ⟨0, 10, 13, 13⟩, [⟨0, 10, 17, 15⟩], eI, by rw [ht]; rfl, fun z hz => absurd hz List.not_mem_nil, by decide, by decide, kL_I, kE_I, fun a => ?_⟩
      refine A_astore C (pc := 13) (x := a) [] (by decide) [] rfl dL_keep_13 ?_
      refine A_iconst C (pc := 15) ic_1 dL_keep_15 ?_
      exact L_ri (o0 := o) (ov := none) C (pc := 16) hr hk rfl ⟨Nat.le_of_ble_eq_true rfl, Nat.le_of_ble_eq_true rfl⟩ dL_keep_16 hf
    rw [if_neg hE0] at hf
    by_cases hE1 : E = eA
    · rw [if_pos hE1] at hf
      subst hE1
      refine ⟨[⟨0, 10, 13, 13⟩], ⟨0, 10, 17, 15⟩, [], eA, by rw [ht]; rfl, fun z hz => by
        rcases List.mem_cons.mp hz with rfl | hz
        · exact Or.inr ⟨by decide, eI, kL_I, hX.2.1 _ (List.mem_of_getElem? (i := 0) rfl)⟩
        exact absurd hz List.not_mem_nil, by decide, by decide, kL_A, kE_A, fun a => ?_⟩
      refine A_astore C (pc := 17) (x := a) [] (by decide) [] rfl dL_keep_17 ?_
      refine A_iconst C (pc := 19) ic_2 dL_keep_19 ?_
      exact L_ri (o0 := o) (ov := none) C (pc := 20) hr hk rfl ⟨Nat.le_of_ble_eq_true rfl, Nat.le_of_ble_eq_true rfl⟩ dL_keep_20 hf
    rw [if_neg hE1] at hf
    cases hf
  · refine A_i2l C (pc := 8) dL_keep_8 ?_
    refine A_last C (pc := 9) dL_keep_9 ?_
    refine A_goto C (pc := 10) 21 (by decide) dL_keep_10 ?_
    refine A_iconst C (pc := 21) ic_0 dL_keep_21 ?_
    exact L_ri (o0 := o) (ov := some v5.toInt64) C (pc := 22) hr hk rfl ⟨Nat.le_of_ble_eq_true rfl, Nat.le_of_ble_eq_true rfl⟩ dL_keep_22 hf
set_option maxRecDepth 100000 in
theorem m_L_lay (l : Launch) (hl9 : l.stackTraces = false) (B : Nat) (D : va_G) (Y : Nat → ClassId) (o : Ou) {M : Mem} {x1 : Int32} {x2 : Int32} {r : Int32 × Mem × Option Int64} (hf : f_L_lay M x1 x2 = some r) : Met l yL_lay [Cond.codeWith yL_lay cL_lay 5 (some .int) [(0, 10, 13, 13), (0, 10, 17, 15)]] rm_L_lay (va_Pc [.ref (B + 0), .int x1, .int x2, .ref (B + 110)] (InvX B D Y M o)) (PQ B D Y r.2.1 (oo o r.2.2) (some (.int r.1))) 2 12 (fun q => B ≤ q) := by
  refine ofAtL (L0 := [(0, .ref (B + 0)), (1, .int x1), (2, .int x2), (3, .ref (B + 110))]) (by decide +kernel) (Nat.le_of_ble_eq_true rfl) rfl (fun p e s m args below meth c C hX hr hk ht => ?_)
  dsimp only [f_L_lay] at hf
  refine A_aload_n C (pc := 0) 3 rfl dL_lay_0 ?_
  refine A_iconst C (pc := 1) ic_0 dL_lay_1 ?_
  refine A_aload_n C (pc := 2) 0 rfl dL_lay_2 ?_
  refine A_iload_n C (pc := 3) 1 rfl dL_lay_3 ?_
  refine A_iload_n C (pc := 4) 2 rfl dL_lay_4 ?_
  obtain ⟨z5, h5, hf⟩ := bd_i hf
  refine L_callV C (pc := 5) hX (A := [.int x1, .int x2]) (rest := [.int 0, .ref (B + 110)]) kl_L_7 ky_X6_lay kv_X6_lay (m_X6_lay l hl9 B D Y o h5) (by decide) rfl rfl rfl rfl (Nat.le_of_ble_eq_true rfl) ⟨rfl, rfl, Nat.le_of_ble_eq_true rfl, Nat.le_of_ble_eq_true rfl⟩ ⟨Nat.le_of_ble_eq_true rfl, Nat.le_of_ble_eq_true rfl⟩ dL_lay_5 hf (fun E hf => ?_) (fun v5 hf => ?_)
  · by_cases hE0 : E = eI
    · rw [if_pos hE0] at hf
      subst hE0
      refine ⟨[], ⟨0, 10, 13, 13⟩, [⟨0, 10, 17, 15⟩], eI, by rw [ht]; rfl, fun z hz => absurd hz List.not_mem_nil, by decide, by decide, kL_I, kE_I, fun a => ?_⟩
      refine A_astore C (pc := 13) (x := a) [] (by decide) [] rfl dL_lay_13 ?_
      refine A_iconst C (pc := 15) ic_1 dL_lay_15 ?_
      exact L_ri (o0 := o) (ov := none) C (pc := 16) hr hk rfl ⟨Nat.le_of_ble_eq_true rfl, Nat.le_of_ble_eq_true rfl⟩ dL_lay_16 hf
    rw [if_neg hE0] at hf
    by_cases hE1 : E = eA
    · rw [if_pos hE1] at hf
      subst hE1
      refine ⟨[⟨0, 10, 13, 13⟩], ⟨0, 10, 17, 15⟩, [], eA, by rw [ht]; rfl, fun z hz => by
        rcases List.mem_cons.mp hz with rfl | hz
        · exact Or.inr ⟨by decide, eI, kL_I, hX.2.1 _ (List.mem_of_getElem? (i := 0) rfl)⟩
        exact absurd hz List.not_mem_nil, by decide, by decide, kL_A, kE_A, fun a => ?_⟩
      refine A_astore C (pc := 17) (x := a) [] (by decide) [] rfl dL_lay_17 ?_
      refine A_iconst C (pc := 19) ic_2 dL_lay_19 ?_
      exact L_ri (o0 := o) (ov := none) C (pc := 20) hr hk rfl ⟨Nat.le_of_ble_eq_true rfl, Nat.le_of_ble_eq_true rfl⟩ dL_lay_20 hf
    rw [if_neg hE1] at hf
    cases hf
  · refine A_i2l C (pc := 8) dL_lay_8 ?_
    refine A_last C (pc := 9) dL_lay_9 ?_
    refine A_goto C (pc := 10) 21 (by decide) dL_lay_10 ?_
    refine A_iconst C (pc := 21) ic_0 dL_lay_21 ?_
    exact L_ri (o0 := o) (ov := some v5.toInt64) C (pc := 22) hr hk rfl ⟨Nat.le_of_ble_eq_true rfl, Nat.le_of_ble_eq_true rfl⟩ dL_lay_22 hf
set_option maxRecDepth 100000 in
theorem m_L_level (l : Launch) (hl9 : l.stackTraces = false) (B : Nat) (D : va_G) (Y : Nat → ClassId) (o : Ou) {M : Mem} {x1 : Int32} {x2 : Int32} {r : Int32 × Mem × Option Int64} (hf : f_L_level M x1 x2 = some r) : Met l yL_level [Cond.codeWith yL_level cL_level 5 (some .int) [(0, 10, 13, 13)]] rm_L_level (va_Pc [.ref (B + 0), .int x1, .int x2, .ref (B + 110)] (InvX B D Y M o)) (PQ B D Y r.2.1 (oo o r.2.2) (some (.int r.1))) 2 12 (fun q => B ≤ q) := by
  refine ofAtL (L0 := [(0, .ref (B + 0)), (1, .int x1), (2, .int x2), (3, .ref (B + 110))]) (by decide +kernel) (Nat.le_of_ble_eq_true rfl) rfl (fun p e s m args below meth c C hX hr hk ht => ?_)
  dsimp only [f_L_level] at hf
  refine A_aload_n C (pc := 0) 3 rfl dL_level_0 ?_
  refine A_iconst C (pc := 1) ic_0 dL_level_1 ?_
  refine A_aload_n C (pc := 2) 0 rfl dL_level_2 ?_
  refine A_iload_n C (pc := 3) 1 rfl dL_level_3 ?_
  refine A_iload_n C (pc := 4) 2 rfl dL_level_4 ?_
  obtain ⟨z5, h5, hf⟩ := bd_i hf
  refine L_callV C (pc := 5) hX (A := [.int x1, .int x2]) (rest := [.int 0, .ref (B + 110)]) kl_L_100 ky_X6_level kv_X6_level (m_X6_level l hl9 B D Y o h5) (by decide) rfl rfl rfl rfl (Nat.le_of_ble_eq_true rfl) ⟨rfl, rfl, Nat.le_of_ble_eq_true rfl, Nat.le_of_ble_eq_true rfl⟩ ⟨Nat.le_of_ble_eq_true rfl, Nat.le_of_ble_eq_true rfl⟩ dL_level_5 hf (fun E hf => ?_) (fun v5 hf => ?_)
  · by_cases hE0 : E = eI
    · rw [if_pos hE0] at hf
      subst hE0
      refine ⟨[], ⟨0, 10, 13, 13⟩, [], eI, by rw [ht]; rfl, fun z hz => absurd hz List.not_mem_nil, by decide, by decide, kL_I, kE_I, fun a => ?_⟩
      refine A_astore C (pc := 13) (x := a) [] (by decide) [] rfl dL_level_13 ?_
      refine A_iconst C (pc := 15) ic_1 dL_level_15 ?_
      exact L_ri (o0 := o) (ov := none) C (pc := 16) hr hk rfl ⟨Nat.le_of_ble_eq_true rfl, Nat.le_of_ble_eq_true rfl⟩ dL_level_16 hf
    rw [if_neg hE0] at hf
    cases hf
  · refine A_i2l C (pc := 8) dL_level_8 ?_
    refine A_last C (pc := 9) dL_level_9 ?_
    refine A_goto C (pc := 10) 17 (by decide) dL_level_10 ?_
    refine A_iconst C (pc := 17) ic_0 dL_level_17 ?_
    exact L_ri (o0 := o) (ov := some v5.toInt64) C (pc := 18) hr hk rfl ⟨Nat.le_of_ble_eq_true rfl, Nat.le_of_ble_eq_true rfl⟩ dL_level_18 hf
set_option maxRecDepth 100000 in
theorem m_L_longest (l : Launch) (hl9 : l.stackTraces = false) (B : Nat) (D : va_G) (Y : Nat → ClassId) (o : Ou) {M : Mem} {x1 : Int32} {r : Int32 × Mem × Option Int64} (hf : f_L_longest M x1 = some r) : Met l yL_longest [Cond.codeWith yL_longest cL_longest 4 (some .int) [(0, 9, 12, 13)]] rm_L_longest (va_Pc [.ref (B + 0), .int x1, .ref (B + 110)] (InvX B D Y M o)) (PQ B D Y r.2.1 (oo o r.2.2) (some (.int r.1))) 1 6 (fun q => B ≤ q) := by
  refine ofAtL (L0 := [(0, .ref (B + 0)), (1, .int x1), (2, .ref (B + 110))]) (by decide +kernel) (Nat.le_of_ble_eq_true rfl) rfl (fun p e s m args below meth c C hX hr hk ht => ?_)
  dsimp only [f_L_longest] at hf
  refine A_aload_n C (pc := 0) 2 rfl dL_longest_0 ?_
  refine A_iconst C (pc := 1) ic_0 dL_longest_1 ?_
  refine A_aload_n C (pc := 2) 0 rfl dL_longest_2 ?_
  refine A_iload_n C (pc := 3) 1 rfl dL_longest_3 ?_
  obtain ⟨z4, h4, hf⟩ := bd_i hf
  refine L_callV C (pc := 4) hX (A := [.int x1]) (rest := [.int 0, .ref (B + 110)]) kl_L_103 ky_X6_longest kv_X6_longest (m_X6_longest l hl9 B D Y o h4) (by decide) rfl rfl rfl rfl (Nat.le_of_ble_eq_true rfl) ⟨rfl, rfl, Nat.le_of_ble_eq_true rfl, Nat.le_of_ble_eq_true rfl⟩ ⟨Nat.le_of_ble_eq_true rfl, Nat.le_of_ble_eq_true rfl⟩ dL_longest_4 hf (fun E hf => ?_) (fun v4 hf => ?_)
  · by_cases hE0 : E = eI
    · rw [if_pos hE0] at hf
      subst hE0
      refine ⟨[], ⟨0, 9, 12, 13⟩, [], eI, by rw [ht]; rfl, fun z hz => absurd hz List.not_mem_nil, by decide, by decide, kL_I, kE_I, fun a => ?_⟩
      refine A_astore_n C (pc := 12) (x := a) [] rfl (by decide) [] rfl dL_longest_12 ?_
      refine A_iconst C (pc := 13) ic_1 dL_longest_13 ?_
      exact L_ri (o0 := o) (ov := none) C (pc := 14) hr hk rfl ⟨Nat.le_of_ble_eq_true rfl, Nat.le_of_ble_eq_true rfl⟩ dL_longest_14 hf
    rw [if_neg hE0] at hf
    cases hf
  · refine A_i2l C (pc := 7) dL_longest_7 ?_
    refine A_last C (pc := 8) dL_longest_8 ?_
    refine A_goto C (pc := 9) 15 (by decide) dL_longest_9 ?_
    refine A_iconst C (pc := 15) ic_0 dL_longest_15 ?_
    exact L_ri (o0 := o) (ov := some v4.toInt64) C (pc := 16) hr hk rfl ⟨Nat.le_of_ble_eq_true rfl, Nat.le_of_ble_eq_true rfl⟩ dL_longest_16 hf
set_option maxRecDepth 100000 in
theorem m_L_loose (l : Launch) (hl9 : l.stackTraces = false) (B : Nat) (D : va_G) (Y : Nat → ClassId) (o : Ou) {M : Mem} {x1 : Int32} {x2 : Int32} {x3 : Int32} {r : Int32 × Mem × Option Int64} (hf : f_L_loose M x1 x2 x3 = some r) : Met l yL_loose [Cond.codeWith yL_loose cL_loose 6 (some .int) [(0, 12, 15, 13)]] rm_L_loose (va_Pc [.ref (B + 0), .int x1, .int x2, .int x3, .ref (B + 110)] (InvX B D Y M o)) (PQ B D Y r.2.1 (oo o r.2.2) (some (.int r.1))) 3 18 (fun q => B ≤ q) := by
  refine ofAtL (L0 := [(0, .ref (B + 0)), (1, .int x1), (2, .int x2), (3, .int x3), (4, .ref (B + 110))]) (by decide +kernel) (Nat.le_of_ble_eq_true rfl) rfl (fun p e s m args below meth c C hX hr hk ht => ?_)
  dsimp only [f_L_loose] at hf
  refine A_aload C (pc := 0) 4 rfl dL_loose_0 ?_
  refine A_iconst C (pc := 2) ic_0 dL_loose_2 ?_
  refine A_aload_n C (pc := 3) 0 rfl dL_loose_3 ?_
  refine A_iload_n C (pc := 4) 1 rfl dL_loose_4 ?_
  refine A_iload_n C (pc := 5) 2 rfl dL_loose_5 ?_
  refine A_iload_n C (pc := 6) 3 rfl dL_loose_6 ?_
  obtain ⟨z7, h7, hf⟩ := bd_i hf
  refine L_callV C (pc := 7) hX (A := [.int x1, .int x2, .int x3]) (rest := [.int 0, .ref (B + 110)]) kl_L_38 ky_X6_loose kv_X6_loose (m_X6_loose l hl9 B D Y o h7) (by decide) rfl rfl rfl rfl (Nat.le_of_ble_eq_true rfl) ⟨rfl, rfl, Nat.le_of_ble_eq_true rfl, Nat.le_of_ble_eq_true rfl⟩ ⟨Nat.le_of_ble_eq_true rfl, Nat.le_of_ble_eq_true rfl⟩ dL_loose_7 hf (fun E hf => ?_) (fun v7 hf => ?_)
  · by_cases hE0 : E = eI
    · rw [if_pos hE0] at hf
      subst hE0
      refine ⟨[], ⟨0, 12, 15, 13⟩, [], eI, by rw [ht]; rfl, fun z hz => absurd hz List.not_mem_nil, by decide, by decide, kL_I, kE_I, fun a => ?_⟩
      refine A_astore C (pc := 15) (x := a) [] (by decide) [] rfl dL_loose_15 ?_
      refine A_iconst C (pc := 17) ic_1 dL_loose_17 ?_
      exact L_ri (o0 := o) (ov := none) C (pc := 18) hr hk rfl ⟨Nat.le_of_ble_eq_true rfl, Nat.le_of_ble_eq_true rfl⟩ dL_loose_18 hf
    rw [if_neg hE0] at hf
    cases hf
  · refine A_i2l C (pc := 10) dL_loose_10 ?_
    refine A_last C (pc := 11) dL_loose_11 ?_
    refine A_goto C (pc := 12) 19 (by decide) dL_loose_12 ?_
    refine A_iconst C (pc := 19) ic_0 dL_loose_19 ?_
    exact L_ri (o0 := o) (ov := some v7.toInt64) C (pc := 20) hr hk rfl ⟨Nat.le_of_ble_eq_true rfl, Nat.le_of_ble_eq_true rfl⟩ dL_loose_20 hf
set_option maxRecDepth 100000 in
theorem m_L_lower (l : Launch) (hl9 : l.stackTraces = false) (B : Nat) (D : va_G) (Y : Nat → ClassId) (o : Ou) {M : Mem} {x1 : Int32} {x2 : Int32} {r : Int32 × Mem × Option Int64} (hf : f_L_lower M x1 x2 = some r) : Met l yL_lower [Cond.codeWith yL_lower cL_lower 5 (some .int) [(0, 10, 13, 13)]] rm_L_lower (va_Pc [.ref (B + 0), .int x1, .int x2, .ref (B + 110)] (InvX B D Y M o)) (PQ B D Y r.2.1 (oo o r.2.2) (some (.int r.1))) 2 12 (fun q => B ≤ q) := by
  refine ofAtL (L0 := [(0, .ref (B + 0)), (1, .int x1), (2, .int x2), (3, .ref (B + 110))]) (by decide +kernel) (Nat.le_of_ble_eq_true rfl) rfl (fun p e s m args below meth c C hX hr hk ht => ?_)
  dsimp only [f_L_lower] at hf
  refine A_aload_n C (pc := 0) 3 rfl dL_lower_0 ?_
  refine A_iconst C (pc := 1) ic_0 dL_lower_1 ?_
  refine A_aload_n C (pc := 2) 0 rfl dL_lower_2 ?_
  refine A_iload_n C (pc := 3) 1 rfl dL_lower_3 ?_
  refine A_iload_n C (pc := 4) 2 rfl dL_lower_4 ?_
  obtain ⟨z5, h5, hf⟩ := bd_i hf
  refine L_callV C (pc := 5) hX (A := [.int x1, .int x2]) (rest := [.int 0, .ref (B + 110)]) kl_L_77 ky_X6_lower kv_X6_lower (m_X6_lower l hl9 B D Y o h5) (by decide) rfl rfl rfl rfl (Nat.le_of_ble_eq_true rfl) ⟨rfl, rfl, Nat.le_of_ble_eq_true rfl, Nat.le_of_ble_eq_true rfl⟩ ⟨Nat.le_of_ble_eq_true rfl, Nat.le_of_ble_eq_true rfl⟩ dL_lower_5 hf (fun E hf => ?_) (fun v5 hf => ?_)
  · by_cases hE0 : E = eI
    · rw [if_pos hE0] at hf
      subst hE0
      refine ⟨[], ⟨0, 10, 13, 13⟩, [], eI, by rw [ht]; rfl, fun z hz => absurd hz List.not_mem_nil, by decide, by decide, kL_I, kE_I, fun a => ?_⟩
      refine A_astore C (pc := 13) (x := a) [] (by decide) [] rfl dL_lower_13 ?_
      refine A_iconst C (pc := 15) ic_1 dL_lower_15 ?_
      exact L_ri (o0 := o) (ov := none) C (pc := 16) hr hk rfl ⟨Nat.le_of_ble_eq_true rfl, Nat.le_of_ble_eq_true rfl⟩ dL_lower_16 hf
    rw [if_neg hE0] at hf
    cases hf
  · refine A_i2l C (pc := 8) dL_lower_8 ?_
    refine A_last C (pc := 9) dL_lower_9 ?_
    refine A_goto C (pc := 10) 17 (by decide) dL_lower_10 ?_
    refine A_iconst C (pc := 17) ic_0 dL_lower_17 ?_
    exact L_ri (o0 := o) (ov := some v5.toInt64) C (pc := 18) hr hk rfl ⟨Nat.le_of_ble_eq_true rfl, Nat.le_of_ble_eq_true rfl⟩ dL_lower_18 hf
set_option maxRecDepth 100000 in
theorem m_L_meanPlace (l : Launch) (hl9 : l.stackTraces = false) (B : Nat) (D : va_G) (Y : Nat → ClassId) (o : Ou) {M : Mem} {x1 : Int32} {x2 : Int32} {r : Int32 × Mem × Option UInt64} (hf : f_L_meanPlace M x1 x2 = some r) : Met l yL_meanPlace [Cond.codeWith yL_meanPlace cL_meanPlace 5 (some .int) [(0, 9, 12, 13)]] rm_L_meanPlace (va_Pc [.ref (B + 0), .int x1, .int x2, .ref (B + 111)] (InvX B D Y M o)) (PQ B D Y r.2.1 (od o r.2.2) (some (.int r.1))) 2 12 (fun q => B ≤ q) := by
  refine ofAtL (L0 := [(0, .ref (B + 0)), (1, .int x1), (2, .int x2), (3, .ref (B + 111))]) (by decide +kernel) (Nat.le_of_ble_eq_true rfl) rfl (fun p e s m args below meth c C hX hr hk ht => ?_)
  dsimp only [f_L_meanPlace] at hf
  refine A_aload_n C (pc := 0) 3 rfl dL_meanPlace_0 ?_
  refine A_iconst C (pc := 1) ic_0 dL_meanPlace_1 ?_
  refine A_aload_n C (pc := 2) 0 rfl dL_meanPlace_2 ?_
  refine A_iload_n C (pc := 3) 1 rfl dL_meanPlace_3 ?_
  refine A_iload_n C (pc := 4) 2 rfl dL_meanPlace_4 ?_
  obtain ⟨z5, h5, hf⟩ := bd_i hf
  refine L_callV C (pc := 5) hX (A := [.int x1, .int x2]) (rest := [.int 0, .ref (B + 111)]) kl_L_164 ky_X6_meanPlace kv_X6_meanPlace (m_X6_meanPlace l hl9 B D Y o h5) (by decide) rfl rfl rfl rfl (Nat.le_of_ble_eq_true rfl) ⟨rfl, rfl, Nat.le_of_ble_eq_true rfl, Nat.le_of_ble_eq_true rfl⟩ ⟨Nat.le_of_ble_eq_true rfl, Nat.le_of_ble_eq_true rfl⟩ dL_meanPlace_5 hf (fun E hf => ?_) (fun v5 hf => ?_)
  · by_cases hE0 : E = eI
    · rw [if_pos hE0] at hf
      subst hE0
      refine ⟨[], ⟨0, 9, 12, 13⟩, [], eI, by rw [ht]; rfl, fun z hz => absurd hz List.not_mem_nil, by decide, by decide, kL_I, kE_I, fun a => ?_⟩
      refine A_astore C (pc := 12) (x := a) [] (by decide) [] rfl dL_meanPlace_12 ?_
      refine A_iconst C (pc := 14) ic_1 dL_meanPlace_14 ?_
      exact L_riD (o0 := o) (ov := none) C (pc := 15) hr hk rfl ⟨Nat.le_of_ble_eq_true rfl, Nat.le_of_ble_eq_true rfl⟩ dL_meanPlace_15 hf
    rw [if_neg hE0] at hf
    cases hf
  · refine A_dast C (pc := 8) dL_meanPlace_8 ?_
    refine A_goto C (pc := 9) 16 (by decide) dL_meanPlace_9 ?_
    refine A_iconst C (pc := 16) ic_0 dL_meanPlace_16 ?_
    exact L_riD (o0 := o) (ov := some v5) C (pc := 17) hr hk rfl ⟨Nat.le_of_ble_eq_true rfl, Nat.le_of_ble_eq_true rfl⟩ dL_meanPlace_17 hf
set_option maxRecDepth 100000 in
theorem m_L_meet (l : Launch) (hl9 : l.stackTraces = false) (B : Nat) (D : va_G) (Y : Nat → ClassId) (o : Ou) {M : Mem} {x1 : Int32} {x2 : Int32} {x3 : Int32} {r : Int32 × Mem × Option Int64} (hf : f_L_meet M x1 x2 x3 = some r) : Met l yL_meet [Cond.codeWith yL_meet cL_meet 6 (some .int) [(0, 12, 15, 13)]] rm_L_meet (va_Pc [.ref (B + 0), .int x1, .int x2, .int x3, .ref (B + 110)] (InvX B D Y M o)) (PQ B D Y r.2.1 (oo o r.2.2) (some (.int r.1))) 3 18 (fun q => B ≤ q) := by
  refine ofAtL (L0 := [(0, .ref (B + 0)), (1, .int x1), (2, .int x2), (3, .int x3), (4, .ref (B + 110))]) (by decide +kernel) (Nat.le_of_ble_eq_true rfl) rfl (fun p e s m args below meth c C hX hr hk ht => ?_)
  dsimp only [f_L_meet] at hf
  refine A_aload C (pc := 0) 4 rfl dL_meet_0 ?_
  refine A_iconst C (pc := 2) ic_0 dL_meet_2 ?_
  refine A_aload_n C (pc := 3) 0 rfl dL_meet_3 ?_
  refine A_iload_n C (pc := 4) 1 rfl dL_meet_4 ?_
  refine A_iload_n C (pc := 5) 2 rfl dL_meet_5 ?_
  refine A_iload_n C (pc := 6) 3 rfl dL_meet_6 ?_
  obtain ⟨z7, h7, hf⟩ := bd_i hf
  refine L_callV C (pc := 7) hX (A := [.int x1, .int x2, .int x3]) (rest := [.int 0, .ref (B + 110)]) kl_L_57 ky_X6_meet kv_X6_meet (m_X6_meet l hl9 B D Y o h7) (by decide) rfl rfl rfl rfl (Nat.le_of_ble_eq_true rfl) ⟨rfl, rfl, Nat.le_of_ble_eq_true rfl, Nat.le_of_ble_eq_true rfl⟩ ⟨Nat.le_of_ble_eq_true rfl, Nat.le_of_ble_eq_true rfl⟩ dL_meet_7 hf (fun E hf => ?_) (fun v7 hf => ?_)
  · by_cases hE0 : E = eI
    · rw [if_pos hE0] at hf
      subst hE0
      refine ⟨[], ⟨0, 12, 15, 13⟩, [], eI, by rw [ht]; rfl, fun z hz => absurd hz List.not_mem_nil, by decide, by decide, kL_I, kE_I, fun a => ?_⟩
      refine A_astore C (pc := 15) (x := a) [] (by decide) [] rfl dL_meet_15 ?_
      refine A_iconst C (pc := 17) ic_1 dL_meet_17 ?_
      exact L_ri (o0 := o) (ov := none) C (pc := 18) hr hk rfl ⟨Nat.le_of_ble_eq_true rfl, Nat.le_of_ble_eq_true rfl⟩ dL_meet_18 hf
    rw [if_neg hE0] at hf
    cases hf
  · refine A_i2l C (pc := 10) dL_meet_10 ?_
    refine A_last C (pc := 11) dL_meet_11 ?_
    refine A_goto C (pc := 12) 19 (by decide) dL_meet_12 ?_
    refine A_iconst C (pc := 19) ic_0 dL_meet_19 ?_
    exact L_ri (o0 := o) (ov := some v7.toInt64) C (pc := 20) hr hk rfl ⟨Nat.le_of_ble_eq_true rfl, Nat.le_of_ble_eq_true rfl⟩ dL_meet_20 hf
set_option maxRecDepth 100000 in
theorem m_L_near (l : Launch) (hl9 : l.stackTraces = false) (B : Nat) (D : va_G) (Y : Nat → ClassId) (o : Ou) {M : Mem} {x1 : Int32} {x2 : Int32} {x3 : Int32} {r : Int32 × Mem × Option Int64} (hf : f_L_near M x1 x2 x3 = some r) : Met l yL_near [Cond.codeWith yL_near cL_near 6 (some .int) [(0, 12, 15, 13), (0, 12, 19, 15)]] rm_L_near (va_Pc [.ref (B + 0), .int x1, .int x2, .int x3, .ref (B + 110)] (InvX B D Y M o)) (PQ B D Y r.2.1 (oo o r.2.2) (some (.int r.1))) 3 18 (fun q => B ≤ q) := by
  refine ofAtL (L0 := [(0, .ref (B + 0)), (1, .int x1), (2, .int x2), (3, .int x3), (4, .ref (B + 110))]) (by decide +kernel) (Nat.le_of_ble_eq_true rfl) rfl (fun p e s m args below meth c C hX hr hk ht => ?_)
  dsimp only [f_L_near] at hf
  refine A_aload C (pc := 0) 4 rfl dL_near_0 ?_
  refine A_iconst C (pc := 2) ic_0 dL_near_2 ?_
  refine A_aload_n C (pc := 3) 0 rfl dL_near_3 ?_
  refine A_iload_n C (pc := 4) 1 rfl dL_near_4 ?_
  refine A_iload_n C (pc := 5) 2 rfl dL_near_5 ?_
  refine A_iload_n C (pc := 6) 3 rfl dL_near_6 ?_
  obtain ⟨z7, h7, hf⟩ := bd_i hf
  refine L_callV C (pc := 7) hX (A := [.int x1, .int x2, .int x3]) (rest := [.int 0, .ref (B + 110)]) kl_L_130 ky_X6_near kv_X6_near (m_X6_near l hl9 B D Y o h7) (by decide) rfl rfl rfl rfl (Nat.le_of_ble_eq_true rfl) ⟨rfl, rfl, Nat.le_of_ble_eq_true rfl, Nat.le_of_ble_eq_true rfl⟩ ⟨Nat.le_of_ble_eq_true rfl, Nat.le_of_ble_eq_true rfl⟩ dL_near_7 hf (fun E hf => ?_) (fun v7 hf => ?_)
  · by_cases hE0 : E = eI
    · rw [if_pos hE0] at hf
      subst hE0
      refine ⟨[], ⟨0, 12, 15, 13⟩, [⟨0, 12, 19, 15⟩], eI, by rw [ht]; rfl, fun z hz => absurd hz List.not_mem_nil, by decide, by decide, kL_I, kE_I, fun a => ?_⟩
      refine A_astore C (pc := 15) (x := a) [] (by decide) [] rfl dL_near_15 ?_
      refine A_iconst C (pc := 17) ic_1 dL_near_17 ?_
      exact L_ri (o0 := o) (ov := none) C (pc := 18) hr hk rfl ⟨Nat.le_of_ble_eq_true rfl, Nat.le_of_ble_eq_true rfl⟩ dL_near_18 hf
    rw [if_neg hE0] at hf
    by_cases hE1 : E = eA
    · rw [if_pos hE1] at hf
      subst hE1
      refine ⟨[⟨0, 12, 15, 13⟩], ⟨0, 12, 19, 15⟩, [], eA, by rw [ht]; rfl, fun z hz => by
        rcases List.mem_cons.mp hz with rfl | hz
        · exact Or.inr ⟨by decide, eI, kL_I, hX.2.1 _ (List.mem_of_getElem? (i := 0) rfl)⟩
        exact absurd hz List.not_mem_nil, by decide, by decide, kL_A, kE_A, fun a => ?_⟩
      refine A_astore C (pc := 19) (x := a) [] (by decide) [] rfl dL_near_19 ?_
      refine A_iconst C (pc := 21) ic_2 dL_near_21 ?_
      exact L_ri (o0 := o) (ov := none) C (pc := 22) hr hk rfl ⟨Nat.le_of_ble_eq_true rfl, Nat.le_of_ble_eq_true rfl⟩ dL_near_22 hf
    rw [if_neg hE1] at hf
    cases hf
  · refine A_i2l C (pc := 10) dL_near_10 ?_
    refine A_last C (pc := 11) dL_near_11 ?_
    refine A_goto C (pc := 12) 23 (by decide) dL_near_12 ?_
    refine A_iconst C (pc := 23) ic_0 dL_near_23 ?_
    exact L_ri (o0 := o) (ov := some v7.toInt64) C (pc := 24) hr hk rfl ⟨Nat.le_of_ble_eq_true rfl, Nat.le_of_ble_eq_true rfl⟩ dL_near_24 hf
set_option maxRecDepth 100000 in
theorem m_L_nextRow (l : Launch) (hl9 : l.stackTraces = false) (B : Nat) (D : va_G) (Y : Nat → ClassId) (o : Ou) {M : Mem} {x1 : Int32} {x2 : Int32} {r : Int32 × Mem × Option Int64} (hf : f_L_nextRow M x1 x2 = some r) : Met l yL_nextRow [Cond.codeWith yL_nextRow cL_nextRow 5 (some .int) [(0, 10, 13, 13), (0, 10, 17, 15)]] rm_L_nextRow (va_Pc [.ref (B + 0), .int x1, .int x2, .ref (B + 110)] (InvX B D Y M o)) (PQ B D Y r.2.1 (oo o r.2.2) (some (.int r.1))) 3 18 (fun q => B ≤ q) := by
  refine ofAtL (L0 := [(0, .ref (B + 0)), (1, .int x1), (2, .int x2), (3, .ref (B + 110))]) (by decide +kernel) (Nat.le_of_ble_eq_true rfl) rfl (fun p e s m args below meth c C hX hr hk ht => ?_)
  dsimp only [f_L_nextRow] at hf
  refine A_aload_n C (pc := 0) 3 rfl dL_nextRow_0 ?_
  refine A_iconst C (pc := 1) ic_0 dL_nextRow_1 ?_
  refine A_aload_n C (pc := 2) 0 rfl dL_nextRow_2 ?_
  refine A_iload_n C (pc := 3) 1 rfl dL_nextRow_3 ?_
  refine A_iload_n C (pc := 4) 2 rfl dL_nextRow_4 ?_
  obtain ⟨z5, h5, hf⟩ := bd_i hf
  refine L_callV C (pc := 5) hX (A := [.int x1, .int x2]) (rest := [.int 0, .ref (B + 110)]) kl_L_155 ky_X6_nextRow kv_X6_nextRow (m_X6_nextRow l hl9 B D Y o h5) (by decide) rfl rfl rfl rfl (Nat.le_of_ble_eq_true rfl) ⟨rfl, rfl, Nat.le_of_ble_eq_true rfl, Nat.le_of_ble_eq_true rfl⟩ ⟨Nat.le_of_ble_eq_true rfl, Nat.le_of_ble_eq_true rfl⟩ dL_nextRow_5 hf (fun E hf => ?_) (fun v5 hf => ?_)
  · by_cases hE0 : E = eI
    · rw [if_pos hE0] at hf
      subst hE0
      refine ⟨[], ⟨0, 10, 13, 13⟩, [⟨0, 10, 17, 15⟩], eI, by rw [ht]; rfl, fun z hz => absurd hz List.not_mem_nil, by decide, by decide, kL_I, kE_I, fun a => ?_⟩
      refine A_astore C (pc := 13) (x := a) [] (by decide) [] rfl dL_nextRow_13 ?_
      refine A_iconst C (pc := 15) ic_1 dL_nextRow_15 ?_
      exact L_ri (o0 := o) (ov := none) C (pc := 16) hr hk rfl ⟨Nat.le_of_ble_eq_true rfl, Nat.le_of_ble_eq_true rfl⟩ dL_nextRow_16 hf
    rw [if_neg hE0] at hf
    by_cases hE1 : E = eA
    · rw [if_pos hE1] at hf
      subst hE1
      refine ⟨[⟨0, 10, 13, 13⟩], ⟨0, 10, 17, 15⟩, [], eA, by rw [ht]; rfl, fun z hz => by
        rcases List.mem_cons.mp hz with rfl | hz
        · exact Or.inr ⟨by decide, eI, kL_I, hX.2.1 _ (List.mem_of_getElem? (i := 0) rfl)⟩
        exact absurd hz List.not_mem_nil, by decide, by decide, kL_A, kE_A, fun a => ?_⟩
      refine A_astore C (pc := 17) (x := a) [] (by decide) [] rfl dL_nextRow_17 ?_
      refine A_iconst C (pc := 19) ic_2 dL_nextRow_19 ?_
      exact L_ri (o0 := o) (ov := none) C (pc := 20) hr hk rfl ⟨Nat.le_of_ble_eq_true rfl, Nat.le_of_ble_eq_true rfl⟩ dL_nextRow_20 hf
    rw [if_neg hE1] at hf
    cases hf
  · refine A_i2l C (pc := 8) dL_nextRow_8 ?_
    refine A_last C (pc := 9) dL_nextRow_9 ?_
    refine A_goto C (pc := 10) 21 (by decide) dL_nextRow_10 ?_
    refine A_iconst C (pc := 21) ic_0 dL_nextRow_21 ?_
    exact L_ri (o0 := o) (ov := some v5.toInt64) C (pc := 22) hr hk rfl ⟨Nat.le_of_ble_eq_true rfl, Nat.le_of_ble_eq_true rfl⟩ dL_nextRow_22 hf
set_option maxRecDepth 100000 in
theorem m_L_nexts (l : Launch) (hl9 : l.stackTraces = false) (B : Nat) (D : va_G) (Y : Nat → ClassId) (o : Ou) {M : Mem} {x1 : Int32} {r : Int32 × Mem × Option Int64} (hf : f_L_nexts M x1 = some r) : Met l yL_nexts [Cond.codeWith yL_nexts cL_nexts 4 (some .int) [(0, 9, 12, 13)]] rm_L_nexts (va_Pc [.ref (B + 0), .int x1, .ref (B + 110)] (InvX B D Y M o)) (PQ B D Y r.2.1 (oo o r.2.2) (some (.int r.1))) 1 6 (fun q => B ≤ q) := by
  refine ofAtL (L0 := [(0, .ref (B + 0)), (1, .int x1), (2, .ref (B + 110))]) (by decide +kernel) (Nat.le_of_ble_eq_true rfl) rfl (fun p e s m args below meth c C hX hr hk ht => ?_)
  dsimp only [f_L_nexts] at hf
  refine A_aload_n C (pc := 0) 2 rfl dL_nexts_0 ?_
  refine A_iconst C (pc := 1) ic_0 dL_nexts_1 ?_
  refine A_aload_n C (pc := 2) 0 rfl dL_nexts_2 ?_
  refine A_iload_n C (pc := 3) 1 rfl dL_nexts_3 ?_
  obtain ⟨z4, h4, hf⟩ := bd_i hf
  refine L_callV C (pc := 4) hX (A := [.int x1]) (rest := [.int 0, .ref (B + 110)]) kl_L_66 ky_X6_nexts kv_X6_nexts (m_X6_nexts l hl9 B D Y o h4) (by decide) rfl rfl rfl rfl (Nat.le_of_ble_eq_true rfl) ⟨rfl, rfl, Nat.le_of_ble_eq_true rfl, Nat.le_of_ble_eq_true rfl⟩ ⟨Nat.le_of_ble_eq_true rfl, Nat.le_of_ble_eq_true rfl⟩ dL_nexts_4 hf (fun E hf => ?_) (fun v4 hf => ?_)
  · by_cases hE0 : E = eI
    · rw [if_pos hE0] at hf
      subst hE0
      refine ⟨[], ⟨0, 9, 12, 13⟩, [], eI, by rw [ht]; rfl, fun z hz => absurd hz List.not_mem_nil, by decide, by decide, kL_I, kE_I, fun a => ?_⟩
      refine A_astore_n C (pc := 12) (x := a) [] rfl (by decide) [] rfl dL_nexts_12 ?_
      refine A_iconst C (pc := 13) ic_1 dL_nexts_13 ?_
      exact L_ri (o0 := o) (ov := none) C (pc := 14) hr hk rfl ⟨Nat.le_of_ble_eq_true rfl, Nat.le_of_ble_eq_true rfl⟩ dL_nexts_14 hf
    rw [if_neg hE0] at hf
    cases hf
  · refine A_i2l C (pc := 7) dL_nexts_7 ?_
    refine A_last C (pc := 8) dL_nexts_8 ?_
    refine A_goto C (pc := 9) 15 (by decide) dL_nexts_9 ?_
    refine A_iconst C (pc := 15) ic_0 dL_nexts_15 ?_
    exact L_ri (o0 := o) (ov := some v4.toInt64) C (pc := 16) hr hk rfl ⟨Nat.le_of_ble_eq_true rfl, Nat.le_of_ble_eq_true rfl⟩ dL_nexts_16 hf
set_option maxRecDepth 100000 in
theorem m_L_number (l : Launch) (hl9 : l.stackTraces = false) (B : Nat) (D : va_G) (Y : Nat → ClassId) (o : Ou) {M : Mem} {x1 : Int32} {x2 : Int32} {x3 : Int32} {r : Int32 × Mem × Option Int64} (hf : f_L_number M x1 x2 x3 = some r) : Met l yL_number [Cond.codeWith yL_number cL_number 6 (some .int) [(0, 12, 15, 13)]] rm_L_number (va_Pc [.ref (B + 0), .int x1, .int x2, .int x3, .ref (B + 110)] (InvX B D Y M o)) (PQ B D Y r.2.1 (oo o r.2.2) (some (.int r.1))) 3 18 (fun q => B ≤ q) := by
  refine ofAtL (L0 := [(0, .ref (B + 0)), (1, .int x1), (2, .int x2), (3, .int x3), (4, .ref (B + 110))]) (by decide +kernel) (Nat.le_of_ble_eq_true rfl) rfl (fun p e s m args below meth c C hX hr hk ht => ?_)
  dsimp only [f_L_number] at hf
  refine A_aload C (pc := 0) 4 rfl dL_number_0 ?_
  refine A_iconst C (pc := 2) ic_0 dL_number_2 ?_
  refine A_aload_n C (pc := 3) 0 rfl dL_number_3 ?_
  refine A_iload_n C (pc := 4) 1 rfl dL_number_4 ?_
  refine A_iload_n C (pc := 5) 2 rfl dL_number_5 ?_
  refine A_iload_n C (pc := 6) 3 rfl dL_number_6 ?_
  obtain ⟨z7, h7, hf⟩ := bd_i hf
  refine L_callV C (pc := 7) hX (A := [.int x1, .int x2, .int x3]) (rest := [.int 0, .ref (B + 110)]) kl_L_175 ky_X6_number kv_X6_number (m_X6_number l hl9 B D Y o h7) (by decide) rfl rfl rfl rfl (Nat.le_of_ble_eq_true rfl) ⟨rfl, rfl, Nat.le_of_ble_eq_true rfl, Nat.le_of_ble_eq_true rfl⟩ ⟨Nat.le_of_ble_eq_true rfl, Nat.le_of_ble_eq_true rfl⟩ dL_number_7 hf (fun E hf => ?_) (fun v7 hf => ?_)
  · by_cases hE0 : E = eI
    · rw [if_pos hE0] at hf
      subst hE0
      refine ⟨[], ⟨0, 12, 15, 13⟩, [], eI, by rw [ht]; rfl, fun z hz => absurd hz List.not_mem_nil, by decide, by decide, kL_I, kE_I, fun a => ?_⟩
      refine A_astore C (pc := 15) (x := a) [] (by decide) [] rfl dL_number_15 ?_
      refine A_iconst C (pc := 17) ic_1 dL_number_17 ?_
      exact L_ri (o0 := o) (ov := none) C (pc := 18) hr hk rfl ⟨Nat.le_of_ble_eq_true rfl, Nat.le_of_ble_eq_true rfl⟩ dL_number_18 hf
    rw [if_neg hE0] at hf
    cases hf
  · refine A_i2l C (pc := 10) dL_number_10 ?_
    refine A_last C (pc := 11) dL_number_11 ?_
    refine A_goto C (pc := 12) 19 (by decide) dL_number_12 ?_
    refine A_iconst C (pc := 19) ic_0 dL_number_19 ?_
    exact L_ri (o0 := o) (ov := some v7.toInt64) C (pc := 20) hr hk rfl ⟨Nat.le_of_ble_eq_true rfl, Nat.le_of_ble_eq_true rfl⟩ dL_number_20 hf
set_option maxRecDepth 100000 in
theorem m_L_pairs (l : Launch) (hl9 : l.stackTraces = false) (B : Nat) (D : va_G) (Y : Nat → ClassId) (o : Ou) {M : Mem} {x1 : Int32} {r : Int32 × Mem × Option Int64} (hf : f_L_pairs M x1 = some r) : Met l yL_pairs [Cond.codeWith yL_pairs cL_pairs 4 (some .int) [(0, 9, 12, 13)]] rm_L_pairs (va_Pc [.ref (B + 0), .int x1, .ref (B + 110)] (InvX B D Y M o)) (PQ B D Y r.2.1 (oo o r.2.2) (some (.int r.1))) 1 6 (fun q => B ≤ q) := by
  refine ofAtL (L0 := [(0, .ref (B + 0)), (1, .int x1), (2, .ref (B + 110))]) (by decide +kernel) (Nat.le_of_ble_eq_true rfl) rfl (fun p e s m args below meth c C hX hr hk ht => ?_)
  dsimp only [f_L_pairs] at hf
  refine A_aload_n C (pc := 0) 2 rfl dL_pairs_0 ?_
  refine A_iconst C (pc := 1) ic_0 dL_pairs_1 ?_
  refine A_aload_n C (pc := 2) 0 rfl dL_pairs_2 ?_
  refine A_iload_n C (pc := 3) 1 rfl dL_pairs_3 ?_
  obtain ⟨z4, h4, hf⟩ := bd_i hf
  refine L_callV C (pc := 4) hX (A := [.int x1]) (rest := [.int 0, .ref (B + 110)]) kl_L_63 ky_X6_pairs kv_X6_pairs (m_X6_pairs l hl9 B D Y o h4) (by decide) rfl rfl rfl rfl (Nat.le_of_ble_eq_true rfl) ⟨rfl, rfl, Nat.le_of_ble_eq_true rfl, Nat.le_of_ble_eq_true rfl⟩ ⟨Nat.le_of_ble_eq_true rfl, Nat.le_of_ble_eq_true rfl⟩ dL_pairs_4 hf (fun E hf => ?_) (fun v4 hf => ?_)
  · by_cases hE0 : E = eI
    · rw [if_pos hE0] at hf
      subst hE0
      refine ⟨[], ⟨0, 9, 12, 13⟩, [], eI, by rw [ht]; rfl, fun z hz => absurd hz List.not_mem_nil, by decide, by decide, kL_I, kE_I, fun a => ?_⟩
      refine A_astore_n C (pc := 12) (x := a) [] rfl (by decide) [] rfl dL_pairs_12 ?_
      refine A_iconst C (pc := 13) ic_1 dL_pairs_13 ?_
      exact L_ri (o0 := o) (ov := none) C (pc := 14) hr hk rfl ⟨Nat.le_of_ble_eq_true rfl, Nat.le_of_ble_eq_true rfl⟩ dL_pairs_14 hf
    rw [if_neg hE0] at hf
    cases hf
  · refine A_i2l C (pc := 7) dL_pairs_7 ?_
    refine A_last C (pc := 8) dL_pairs_8 ?_
    refine A_goto C (pc := 9) 15 (by decide) dL_pairs_9 ?_
    refine A_iconst C (pc := 15) ic_0 dL_pairs_15 ?_
    exact L_ri (o0 := o) (ov := some v4.toInt64) C (pc := 16) hr hk rfl ⟨Nat.le_of_ble_eq_true rfl, Nat.le_of_ble_eq_true rfl⟩ dL_pairs_16 hf
set_option maxRecDepth 100000 in
theorem m_L_placeOf (l : Launch) (hl9 : l.stackTraces = false) (B : Nat) (D : va_G) (Y : Nat → ClassId) (o : Ou) {M : Mem} {x1 : Int32} {x2 : Int32} {r : Int32 × Mem × Option Int64} (hf : f_L_placeOf M x1 x2 = some r) : Met l yL_placeOf [Cond.codeWith yL_placeOf cL_placeOf 5 (some .int) [(0, 10, 13, 13), (0, 10, 17, 15)]] rm_L_placeOf (va_Pc [.ref (B + 0), .int x1, .int x2, .ref (B + 110)] (InvX B D Y M o)) (PQ B D Y r.2.1 (oo o r.2.2) (some (.int r.1))) 2 12 (fun q => B ≤ q) := by
  refine ofAtL (L0 := [(0, .ref (B + 0)), (1, .int x1), (2, .int x2), (3, .ref (B + 110))]) (by decide +kernel) (Nat.le_of_ble_eq_true rfl) rfl (fun p e s m args below meth c C hX hr hk ht => ?_)
  dsimp only [f_L_placeOf] at hf
  refine A_aload_n C (pc := 0) 3 rfl dL_placeOf_0 ?_
  refine A_iconst C (pc := 1) ic_0 dL_placeOf_1 ?_
  refine A_aload_n C (pc := 2) 0 rfl dL_placeOf_2 ?_
  refine A_iload_n C (pc := 3) 1 rfl dL_placeOf_3 ?_
  refine A_iload_n C (pc := 4) 2 rfl dL_placeOf_4 ?_
  obtain ⟨z5, h5, hf⟩ := bd_i hf
  refine L_callV C (pc := 5) hX (A := [.int x1, .int x2]) (rest := [.int 0, .ref (B + 110)]) kl_L_127 ky_X6_placeOf kv_X6_placeOf (m_X6_placeOf l hl9 B D Y o h5) (by decide) rfl rfl rfl rfl (Nat.le_of_ble_eq_true rfl) ⟨rfl, rfl, Nat.le_of_ble_eq_true rfl, Nat.le_of_ble_eq_true rfl⟩ ⟨Nat.le_of_ble_eq_true rfl, Nat.le_of_ble_eq_true rfl⟩ dL_placeOf_5 hf (fun E hf => ?_) (fun v5 hf => ?_)
  · by_cases hE0 : E = eI
    · rw [if_pos hE0] at hf
      subst hE0
      refine ⟨[], ⟨0, 10, 13, 13⟩, [⟨0, 10, 17, 15⟩], eI, by rw [ht]; rfl, fun z hz => absurd hz List.not_mem_nil, by decide, by decide, kL_I, kE_I, fun a => ?_⟩
      refine A_astore C (pc := 13) (x := a) [] (by decide) [] rfl dL_placeOf_13 ?_
      refine A_iconst C (pc := 15) ic_1 dL_placeOf_15 ?_
      exact L_ri (o0 := o) (ov := none) C (pc := 16) hr hk rfl ⟨Nat.le_of_ble_eq_true rfl, Nat.le_of_ble_eq_true rfl⟩ dL_placeOf_16 hf
    rw [if_neg hE0] at hf
    by_cases hE1 : E = eA
    · rw [if_pos hE1] at hf
      subst hE1
      refine ⟨[⟨0, 10, 13, 13⟩], ⟨0, 10, 17, 15⟩, [], eA, by rw [ht]; rfl, fun z hz => by
        rcases List.mem_cons.mp hz with rfl | hz
        · exact Or.inr ⟨by decide, eI, kL_I, hX.2.1 _ (List.mem_of_getElem? (i := 0) rfl)⟩
        exact absurd hz List.not_mem_nil, by decide, by decide, kL_A, kE_A, fun a => ?_⟩
      refine A_astore C (pc := 17) (x := a) [] (by decide) [] rfl dL_placeOf_17 ?_
      refine A_iconst C (pc := 19) ic_2 dL_placeOf_19 ?_
      exact L_ri (o0 := o) (ov := none) C (pc := 20) hr hk rfl ⟨Nat.le_of_ble_eq_true rfl, Nat.le_of_ble_eq_true rfl⟩ dL_placeOf_20 hf
    rw [if_neg hE1] at hf
    cases hf
  · refine A_i2l C (pc := 8) dL_placeOf_8 ?_
    refine A_last C (pc := 9) dL_placeOf_9 ?_
    refine A_goto C (pc := 10) 21 (by decide) dL_placeOf_10 ?_
    refine A_iconst C (pc := 21) ic_0 dL_placeOf_21 ?_
    exact L_ri (o0 := o) (ov := some v5.toInt64) C (pc := 22) hr hk rfl ⟨Nat.le_of_ble_eq_true rfl, Nat.le_of_ble_eq_true rfl⟩ dL_placeOf_22 hf
set_option maxRecDepth 100000 in
theorem m_L_put (l : Launch) (hl9 : l.stackTraces = false) (B : Nat) (D : va_G) (Y : Nat → ClassId) (o : Ou) {M : Mem} {x1 : Int32} {x2 : Int32} {x3 : Int32} {r : Int32 × Mem × Option Int64} (hf : f_L_put M x1 x2 x3 = some r) : Met l yL_put [Cond.codeWith yL_put cL_put 6 (some .int) [(0, 12, 15, 13)]] rm_L_put (va_Pc [.ref (B + 0), .int x1, .int x2, .int x3, .ref (B + 110)] (InvX B D Y M o)) (PQ B D Y r.2.1 (oo o r.2.2) (some (.int r.1))) 3 18 (fun q => B ≤ q) := by
  refine ofAtL (L0 := [(0, .ref (B + 0)), (1, .int x1), (2, .int x2), (3, .int x3), (4, .ref (B + 110))]) (by decide +kernel) (Nat.le_of_ble_eq_true rfl) rfl (fun p e s m args below meth c C hX hr hk ht => ?_)
  dsimp only [f_L_put] at hf
  refine A_aload C (pc := 0) 4 rfl dL_put_0 ?_
  refine A_iconst C (pc := 2) ic_0 dL_put_2 ?_
  refine A_aload_n C (pc := 3) 0 rfl dL_put_3 ?_
  refine A_iload_n C (pc := 4) 1 rfl dL_put_4 ?_
  refine A_iload_n C (pc := 5) 2 rfl dL_put_5 ?_
  refine A_iload_n C (pc := 6) 3 rfl dL_put_6 ?_
  obtain ⟨z7, h7, hf⟩ := bd_i hf
  refine L_callV C (pc := 7) hX (A := [.int x1, .int x2, .int x3]) (rest := [.int 0, .ref (B + 110)]) kl_L_35 ky_X6_put kv_X6_put (m_X6_put l hl9 B D Y o h7) (by decide) rfl rfl rfl rfl (Nat.le_of_ble_eq_true rfl) ⟨rfl, rfl, Nat.le_of_ble_eq_true rfl, Nat.le_of_ble_eq_true rfl⟩ ⟨Nat.le_of_ble_eq_true rfl, Nat.le_of_ble_eq_true rfl⟩ dL_put_7 hf (fun E hf => ?_) (fun v7 hf => ?_)
  · by_cases hE0 : E = eI
    · rw [if_pos hE0] at hf
      subst hE0
      refine ⟨[], ⟨0, 12, 15, 13⟩, [], eI, by rw [ht]; rfl, fun z hz => absurd hz List.not_mem_nil, by decide, by decide, kL_I, kE_I, fun a => ?_⟩
      refine A_astore C (pc := 15) (x := a) [] (by decide) [] rfl dL_put_15 ?_
      refine A_iconst C (pc := 17) ic_1 dL_put_17 ?_
      exact L_ri (o0 := o) (ov := none) C (pc := 18) hr hk rfl ⟨Nat.le_of_ble_eq_true rfl, Nat.le_of_ble_eq_true rfl⟩ dL_put_18 hf
    rw [if_neg hE0] at hf
    cases hf
  · refine A_i2l C (pc := 10) dL_put_10 ?_
    refine A_last C (pc := 11) dL_put_11 ?_
    refine A_goto C (pc := 12) 19 (by decide) dL_put_12 ?_
    refine A_iconst C (pc := 19) ic_0 dL_put_19 ?_
    exact L_ri (o0 := o) (ov := some v7.toInt64) C (pc := 20) hr hk rfl ⟨Nat.le_of_ble_eq_true rfl, Nat.le_of_ble_eq_true rfl⟩ dL_put_20 hf
set_option maxRecDepth 100000 in
theorem m_L_rowAt (l : Launch) (hl9 : l.stackTraces = false) (B : Nat) (D : va_G) (Y : Nat → ClassId) (o : Ou) {M : Mem} {x1 : Int32} {x2 : Int32} {r : Int32 × Mem × Option Int64} (hf : f_L_rowAt M x1 x2 = some r) : Met l yL_rowAt [Cond.codeWith yL_rowAt cL_rowAt 5 (some .int) [(0, 10, 13, 13)]] rm_L_rowAt (va_Pc [.ref (B + 0), .int x1, .int x2, .ref (B + 110)] (InvX B D Y M o)) (PQ B D Y r.2.1 (oo o r.2.2) (some (.int r.1))) 2 12 (fun q => B ≤ q) := by
  refine ofAtL (L0 := [(0, .ref (B + 0)), (1, .int x1), (2, .int x2), (3, .ref (B + 110))]) (by decide +kernel) (Nat.le_of_ble_eq_true rfl) rfl (fun p e s m args below meth c C hX hr hk ht => ?_)
  dsimp only [f_L_rowAt] at hf
  refine A_aload_n C (pc := 0) 3 rfl dL_rowAt_0 ?_
  refine A_iconst C (pc := 1) ic_0 dL_rowAt_1 ?_
  refine A_aload_n C (pc := 2) 0 rfl dL_rowAt_2 ?_
  refine A_iload_n C (pc := 3) 1 rfl dL_rowAt_3 ?_
  refine A_iload_n C (pc := 4) 2 rfl dL_rowAt_4 ?_
  obtain ⟨z5, h5, hf⟩ := bd_i hf
  refine L_callV C (pc := 5) hX (A := [.int x1, .int x2]) (rest := [.int 0, .ref (B + 110)]) kl_L_149 ky_X6_rowAt kv_X6_rowAt (m_X6_rowAt l hl9 B D Y o h5) (by decide) rfl rfl rfl rfl (Nat.le_of_ble_eq_true rfl) ⟨rfl, rfl, Nat.le_of_ble_eq_true rfl, Nat.le_of_ble_eq_true rfl⟩ ⟨Nat.le_of_ble_eq_true rfl, Nat.le_of_ble_eq_true rfl⟩ dL_rowAt_5 hf (fun E hf => ?_) (fun v5 hf => ?_)
  · by_cases hE0 : E = eI
    · rw [if_pos hE0] at hf
      subst hE0
      refine ⟨[], ⟨0, 10, 13, 13⟩, [], eI, by rw [ht]; rfl, fun z hz => absurd hz List.not_mem_nil, by decide, by decide, kL_I, kE_I, fun a => ?_⟩
      refine A_astore C (pc := 13) (x := a) [] (by decide) [] rfl dL_rowAt_13 ?_
      refine A_iconst C (pc := 15) ic_1 dL_rowAt_15 ?_
      exact L_ri (o0 := o) (ov := none) C (pc := 16) hr hk rfl ⟨Nat.le_of_ble_eq_true rfl, Nat.le_of_ble_eq_true rfl⟩ dL_rowAt_16 hf
    rw [if_neg hE0] at hf
    cases hf
  · refine A_i2l C (pc := 8) dL_rowAt_8 ?_
    refine A_last C (pc := 9) dL_rowAt_9 ?_
    refine A_goto C (pc := 10) 17 (by decide) dL_rowAt_10 ?_
    refine A_iconst C (pc := 17) ic_0 dL_rowAt_17 ?_
    exact L_ri (o0 := o) (ov := some v5.toInt64) C (pc := 18) hr hk rfl ⟨Nat.le_of_ble_eq_true rfl, Nat.le_of_ble_eq_true rfl⟩ dL_rowAt_18 hf
set_option maxRecDepth 100000 in
theorem m_L_rowPlace (l : Launch) (hl9 : l.stackTraces = false) (B : Nat) (D : va_G) (Y : Nat → ClassId) (o : Ou) {M : Mem} {x1 : Int32} {x2 : Int32} {r : Int32 × Mem × Option Int64} (hf : f_L_rowPlace M x1 x2 = some r) : Met l yL_rowPlace [Cond.codeWith yL_rowPlace cL_rowPlace 5 (some .int) [(0, 10, 13, 13)]] rm_L_rowPlace (va_Pc [.ref (B + 0), .int x1, .int x2, .ref (B + 110)] (InvX B D Y M o)) (PQ B D Y r.2.1 (oo o r.2.2) (some (.int r.1))) 1 6 (fun q => B ≤ q) := by
  refine ofAtL (L0 := [(0, .ref (B + 0)), (1, .int x1), (2, .int x2), (3, .ref (B + 110))]) (by decide +kernel) (Nat.le_of_ble_eq_true rfl) rfl (fun p e s m args below meth c C hX hr hk ht => ?_)
  dsimp only [f_L_rowPlace] at hf
  refine A_aload_n C (pc := 0) 3 rfl dL_rowPlace_0 ?_
  refine A_iconst C (pc := 1) ic_0 dL_rowPlace_1 ?_
  refine A_aload_n C (pc := 2) 0 rfl dL_rowPlace_2 ?_
  refine A_iload_n C (pc := 3) 1 rfl dL_rowPlace_3 ?_
  refine A_iload_n C (pc := 4) 2 rfl dL_rowPlace_4 ?_
  obtain ⟨z5, h5, hf⟩ := bd_i hf
  refine L_callV C (pc := 5) hX (A := [.int x1, .int x2]) (rest := [.int 0, .ref (B + 110)]) kl_L_152 ky_X6_rowPlace kv_X6_rowPlace (m_X6_rowPlace l hl9 B D Y o h5) (by decide) rfl rfl rfl rfl (Nat.le_of_ble_eq_true rfl) ⟨rfl, rfl, Nat.le_of_ble_eq_true rfl, Nat.le_of_ble_eq_true rfl⟩ ⟨Nat.le_of_ble_eq_true rfl, Nat.le_of_ble_eq_true rfl⟩ dL_rowPlace_5 hf (fun E hf => ?_) (fun v5 hf => ?_)
  · by_cases hE0 : E = eI
    · rw [if_pos hE0] at hf
      subst hE0
      refine ⟨[], ⟨0, 10, 13, 13⟩, [], eI, by rw [ht]; rfl, fun z hz => absurd hz List.not_mem_nil, by decide, by decide, kL_I, kE_I, fun a => ?_⟩
      refine A_astore C (pc := 13) (x := a) [] (by decide) [] rfl dL_rowPlace_13 ?_
      refine A_iconst C (pc := 15) ic_1 dL_rowPlace_15 ?_
      exact L_ri (o0 := o) (ov := none) C (pc := 16) hr hk rfl ⟨Nat.le_of_ble_eq_true rfl, Nat.le_of_ble_eq_true rfl⟩ dL_rowPlace_16 hf
    rw [if_neg hE0] at hf
    cases hf
  · refine A_i2l C (pc := 8) dL_rowPlace_8 ?_
    refine A_last C (pc := 9) dL_rowPlace_9 ?_
    refine A_goto C (pc := 10) 17 (by decide) dL_rowPlace_10 ?_
    refine A_iconst C (pc := 17) ic_0 dL_rowPlace_17 ?_
    exact L_ri (o0 := o) (ov := some v5.toInt64) C (pc := 18) hr hk rfl ⟨Nat.le_of_ble_eq_true rfl, Nat.le_of_ble_eq_true rfl⟩ dL_rowPlace_18 hf
set_option maxRecDepth 100000 in
theorem m_L_rows (l : Launch) (hl9 : l.stackTraces = false) (B : Nat) (D : va_G) (Y : Nat → ClassId) (o : Ou) {M : Mem} {x1 : Int32} {r : Int32 × Mem × Option Int64} (hf : f_L_rows M x1 = some r) : Met l yL_rows [Cond.codeWith yL_rows cL_rows 4 (some .int) [(0, 9, 12, 13)]] rm_L_rows (va_Pc [.ref (B + 0), .int x1, .ref (B + 110)] (InvX B D Y M o)) (PQ B D Y r.2.1 (oo o r.2.2) (some (.int r.1))) 1 6 (fun q => B ≤ q) := by
  refine ofAtL (L0 := [(0, .ref (B + 0)), (1, .int x1), (2, .ref (B + 110))]) (by decide +kernel) (Nat.le_of_ble_eq_true rfl) rfl (fun p e s m args below meth c C hX hr hk ht => ?_)
  dsimp only [f_L_rows] at hf
  refine A_aload_n C (pc := 0) 2 rfl dL_rows_0 ?_
  refine A_iconst C (pc := 1) ic_0 dL_rows_1 ?_
  refine A_aload_n C (pc := 2) 0 rfl dL_rows_2 ?_
  refine A_iload_n C (pc := 3) 1 rfl dL_rows_3 ?_
  obtain ⟨z4, h4, hf⟩ := bd_i hf
  refine L_callV C (pc := 4) hX (A := [.int x1]) (rest := [.int 0, .ref (B + 110)]) kl_L_146 ky_X6_rows kv_X6_rows (m_X6_rows l hl9 B D Y o h4) (by decide) rfl rfl rfl rfl (Nat.le_of_ble_eq_true rfl) ⟨rfl, rfl, Nat.le_of_ble_eq_true rfl, Nat.le_of_ble_eq_true rfl⟩ ⟨Nat.le_of_ble_eq_true rfl, Nat.le_of_ble_eq_true rfl⟩ dL_rows_4 hf (fun E hf => ?_) (fun v4 hf => ?_)
  · by_cases hE0 : E = eI
    · rw [if_pos hE0] at hf
      subst hE0
      refine ⟨[], ⟨0, 9, 12, 13⟩, [], eI, by rw [ht]; rfl, fun z hz => absurd hz List.not_mem_nil, by decide, by decide, kL_I, kE_I, fun a => ?_⟩
      refine A_astore_n C (pc := 12) (x := a) [] rfl (by decide) [] rfl dL_rows_12 ?_
      refine A_iconst C (pc := 13) ic_1 dL_rows_13 ?_
      exact L_ri (o0 := o) (ov := none) C (pc := 14) hr hk rfl ⟨Nat.le_of_ble_eq_true rfl, Nat.le_of_ble_eq_true rfl⟩ dL_rows_14 hf
    rw [if_neg hE0] at hf
    cases hf
  · refine A_i2l C (pc := 7) dL_rows_7 ?_
    refine A_last C (pc := 8) dL_rows_8 ?_
    refine A_goto C (pc := 9) 15 (by decide) dL_rows_9 ?_
    refine A_iconst C (pc := 15) ic_0 dL_rows_15 ?_
    exact L_ri (o0 := o) (ov := some v4.toInt64) C (pc := 16) hr hk rfl ⟨Nat.le_of_ble_eq_true rfl, Nat.le_of_ble_eq_true rfl⟩ dL_rows_16 hf
set_option maxRecDepth 100000 in
theorem m_L_rowsAt (l : Launch) (hl9 : l.stackTraces = false) (B : Nat) (D : va_G) (Y : Nat → ClassId) (o : Ou) {M : Mem} {x1 : Int32} {x2 : Int32} {x3 : Int32} {r : Int32 × Mem × Option Int64} (hf : f_L_rowsAt M x1 x2 x3 = some r) : Met l yL_rowsAt [Cond.codeWith yL_rowsAt cL_rowsAt 6 (some .int) [(0, 12, 15, 13)]] rm_L_rowsAt (va_Pc [.ref (B + 0), .int x1, .int x2, .int x3, .ref (B + 110)] (InvX B D Y M o)) (PQ B D Y r.2.1 (oo o r.2.2) (some (.int r.1))) 2 12 (fun q => B ≤ q) := by
  refine ofAtL (L0 := [(0, .ref (B + 0)), (1, .int x1), (2, .int x2), (3, .int x3), (4, .ref (B + 110))]) (by decide +kernel) (Nat.le_of_ble_eq_true rfl) rfl (fun p e s m args below meth c C hX hr hk ht => ?_)
  dsimp only [f_L_rowsAt] at hf
  refine A_aload C (pc := 0) 4 rfl dL_rowsAt_0 ?_
  refine A_iconst C (pc := 2) ic_0 dL_rowsAt_2 ?_
  refine A_aload_n C (pc := 3) 0 rfl dL_rowsAt_3 ?_
  refine A_iload_n C (pc := 4) 1 rfl dL_rowsAt_4 ?_
  refine A_iload_n C (pc := 5) 2 rfl dL_rowsAt_5 ?_
  refine A_iload_n C (pc := 6) 3 rfl dL_rowsAt_6 ?_
  obtain ⟨z7, h7, hf⟩ := bd_i hf
  refine L_callV C (pc := 7) hX (A := [.int x1, .int x2, .int x3]) (rest := [.int 0, .ref (B + 110)]) kl_L_161 ky_X6_rowsAt kv_X6_rowsAt (m_X6_rowsAt l hl9 B D Y o h7) (by decide) rfl rfl rfl rfl (Nat.le_of_ble_eq_true rfl) ⟨rfl, rfl, Nat.le_of_ble_eq_true rfl, Nat.le_of_ble_eq_true rfl⟩ ⟨Nat.le_of_ble_eq_true rfl, Nat.le_of_ble_eq_true rfl⟩ dL_rowsAt_7 hf (fun E hf => ?_) (fun v7 hf => ?_)
  · by_cases hE0 : E = eI
    · rw [if_pos hE0] at hf
      subst hE0
      refine ⟨[], ⟨0, 12, 15, 13⟩, [], eI, by rw [ht]; rfl, fun z hz => absurd hz List.not_mem_nil, by decide, by decide, kL_I, kE_I, fun a => ?_⟩
      refine A_astore C (pc := 15) (x := a) [] (by decide) [] rfl dL_rowsAt_15 ?_
      refine A_iconst C (pc := 17) ic_1 dL_rowsAt_17 ?_
      exact L_ri (o0 := o) (ov := none) C (pc := 18) hr hk rfl ⟨Nat.le_of_ble_eq_true rfl, Nat.le_of_ble_eq_true rfl⟩ dL_rowsAt_18 hf
    rw [if_neg hE0] at hf
    cases hf
  · refine A_i2l C (pc := 10) dL_rowsAt_10 ?_
    refine A_last C (pc := 11) dL_rowsAt_11 ?_
    refine A_goto C (pc := 12) 19 (by decide) dL_rowsAt_12 ?_
    refine A_iconst C (pc := 19) ic_0 dL_rowsAt_19 ?_
    exact L_ri (o0 := o) (ov := some v7.toInt64) C (pc := 20) hr hk rfl ⟨Nat.le_of_ble_eq_true rfl, Nat.le_of_ble_eq_true rfl⟩ dL_rowsAt_20 hf
set_option maxRecDepth 100000 in
theorem m_L_rowsWith (l : Launch) (hl9 : l.stackTraces = false) (B : Nat) (D : va_G) (Y : Nat → ClassId) (o : Ou) {M : Mem} {x1 : Int32} {x2 : Int32} {x3 : Int32} {r : Int32 × Mem × Option Int64} (hf : f_L_rowsWith M x1 x2 x3 = some r) : Met l yL_rowsWith [Cond.codeWith yL_rowsWith cL_rowsWith 6 (some .int) [(0, 12, 15, 13)]] rm_L_rowsWith (va_Pc [.ref (B + 0), .int x1, .int x2, .int x3, .ref (B + 110)] (InvX B D Y M o)) (PQ B D Y r.2.1 (oo o r.2.2) (some (.int r.1))) 3 18 (fun q => B ≤ q) := by
  refine ofAtL (L0 := [(0, .ref (B + 0)), (1, .int x1), (2, .int x2), (3, .int x3), (4, .ref (B + 110))]) (by decide +kernel) (Nat.le_of_ble_eq_true rfl) rfl (fun p e s m args below meth c C hX hr hk ht => ?_)
  dsimp only [f_L_rowsWith] at hf
  refine A_aload C (pc := 0) 4 rfl dL_rowsWith_0 ?_
  refine A_iconst C (pc := 2) ic_0 dL_rowsWith_2 ?_
  refine A_aload_n C (pc := 3) 0 rfl dL_rowsWith_3 ?_
  refine A_iload_n C (pc := 4) 1 rfl dL_rowsWith_4 ?_
  refine A_iload_n C (pc := 5) 2 rfl dL_rowsWith_5 ?_
  refine A_iload_n C (pc := 6) 3 rfl dL_rowsWith_6 ?_
  obtain ⟨z7, h7, hf⟩ := bd_i hf
  refine L_callV C (pc := 7) hX (A := [.int x1, .int x2, .int x3]) (rest := [.int 0, .ref (B + 110)]) kl_L_158 ky_X6_rowsWith kv_X6_rowsWith (m_X6_rowsWith l hl9 B D Y o h7) (by decide) rfl rfl rfl rfl (Nat.le_of_ble_eq_true rfl) ⟨rfl, rfl, Nat.le_of_ble_eq_true rfl, Nat.le_of_ble_eq_true rfl⟩ ⟨Nat.le_of_ble_eq_true rfl, Nat.le_of_ble_eq_true rfl⟩ dL_rowsWith_7 hf (fun E hf => ?_) (fun v7 hf => ?_)
  · by_cases hE0 : E = eI
    · rw [if_pos hE0] at hf
      subst hE0
      refine ⟨[], ⟨0, 12, 15, 13⟩, [], eI, by rw [ht]; rfl, fun z hz => absurd hz List.not_mem_nil, by decide, by decide, kL_I, kE_I, fun a => ?_⟩
      refine A_astore C (pc := 15) (x := a) [] (by decide) [] rfl dL_rowsWith_15 ?_
      refine A_iconst C (pc := 17) ic_1 dL_rowsWith_17 ?_
      exact L_ri (o0 := o) (ov := none) C (pc := 18) hr hk rfl ⟨Nat.le_of_ble_eq_true rfl, Nat.le_of_ble_eq_true rfl⟩ dL_rowsWith_18 hf
    rw [if_neg hE0] at hf
    cases hf
  · refine A_i2l C (pc := 10) dL_rowsWith_10 ?_
    refine A_last C (pc := 11) dL_rowsWith_11 ?_
    refine A_goto C (pc := 12) 19 (by decide) dL_rowsWith_12 ?_
    refine A_iconst C (pc := 19) ic_0 dL_rowsWith_19 ?_
    exact L_ri (o0 := o) (ov := some v7.toInt64) C (pc := 20) hr hk rfl ⟨Nat.le_of_ble_eq_true rfl, Nat.le_of_ble_eq_true rfl⟩ dL_rowsWith_20 hf
set_option maxRecDepth 100000 in
theorem m_L_setAt (l : Launch) (hl9 : l.stackTraces = false) (B : Nat) (D : va_G) (Y : Nat → ClassId) (o : Ou) {M : Mem} {x1 : Int32} {x2 : Int32} {r : Int32 × Mem × Option Int64} (hf : f_L_setAt M x1 x2 = some r) : Met l yL_setAt [Cond.codeWith yL_setAt cL_setAt 5 (some .int) [(0, 10, 13, 13)]] rm_L_setAt (va_Pc [.ref (B + 0), .int x1, .int x2, .ref (B + 110)] (InvX B D Y M o)) (PQ B D Y r.2.1 (oo o r.2.2) (some (.int r.1))) 2 12 (fun q => B ≤ q) := by
  refine ofAtL (L0 := [(0, .ref (B + 0)), (1, .int x1), (2, .int x2), (3, .ref (B + 110))]) (by decide +kernel) (Nat.le_of_ble_eq_true rfl) rfl (fun p e s m args below meth c C hX hr hk ht => ?_)
  dsimp only [f_L_setAt] at hf
  refine A_aload_n C (pc := 0) 3 rfl dL_setAt_0 ?_
  refine A_iconst C (pc := 1) ic_0 dL_setAt_1 ?_
  refine A_aload_n C (pc := 2) 0 rfl dL_setAt_2 ?_
  refine A_iload_n C (pc := 3) 1 rfl dL_setAt_3 ?_
  refine A_iload_n C (pc := 4) 2 rfl dL_setAt_4 ?_
  obtain ⟨z5, h5, hf⟩ := bd_i hf
  refine L_callV C (pc := 5) hX (A := [.int x1, .int x2]) (rest := [.int 0, .ref (B + 110)]) kl_L_124 ky_X6_setAt kv_X6_setAt (m_X6_setAt l hl9 B D Y o h5) (by decide) rfl rfl rfl rfl (Nat.le_of_ble_eq_true rfl) ⟨rfl, rfl, Nat.le_of_ble_eq_true rfl, Nat.le_of_ble_eq_true rfl⟩ ⟨Nat.le_of_ble_eq_true rfl, Nat.le_of_ble_eq_true rfl⟩ dL_setAt_5 hf (fun E hf => ?_) (fun v5 hf => ?_)
  · by_cases hE0 : E = eI
    · rw [if_pos hE0] at hf
      subst hE0
      refine ⟨[], ⟨0, 10, 13, 13⟩, [], eI, by rw [ht]; rfl, fun z hz => absurd hz List.not_mem_nil, by decide, by decide, kL_I, kE_I, fun a => ?_⟩
      refine A_astore C (pc := 13) (x := a) [] (by decide) [] rfl dL_setAt_13 ?_
      refine A_iconst C (pc := 15) ic_1 dL_setAt_15 ?_
      exact L_ri (o0 := o) (ov := none) C (pc := 16) hr hk rfl ⟨Nat.le_of_ble_eq_true rfl, Nat.le_of_ble_eq_true rfl⟩ dL_setAt_16 hf
    rw [if_neg hE0] at hf
    cases hf
  · refine A_i2l C (pc := 8) dL_setAt_8 ?_
    refine A_last C (pc := 9) dL_setAt_9 ?_
    refine A_goto C (pc := 10) 17 (by decide) dL_setAt_10 ?_
    refine A_iconst C (pc := 17) ic_0 dL_setAt_17 ?_
    exact L_ri (o0 := o) (ov := some v5.toInt64) C (pc := 18) hr hk rfl ⟨Nat.le_of_ble_eq_true rfl, Nat.le_of_ble_eq_true rfl⟩ dL_setAt_18 hf
set_option maxRecDepth 100000 in
theorem m_L_setValue (l : Launch) (hl9 : l.stackTraces = false) (B : Nat) (D : va_G) (Y : Nat → ClassId) (o : Ou) {M : Mem} {x1 : Int32} {x2 : Int32} {x3 : Int32} {r : Int32 × Mem × Option Int64} (hf : f_L_setValue M x1 x2 x3 = some r) : Met l yL_setValue [Cond.codeWith yL_setValue cL_setValue 6 (some .int) [(0, 12, 15, 13), (0, 12, 19, 15)]] rm_L_setValue (va_Pc [.ref (B + 0), .int x1, .int x2, .int x3, .ref (B + 110)] (InvX B D Y M o)) (PQ B D Y r.2.1 (oo o r.2.2) (some (.int r.1))) 3 18 (fun q => B ≤ q) := by
  refine ofAtL (L0 := [(0, .ref (B + 0)), (1, .int x1), (2, .int x2), (3, .int x3), (4, .ref (B + 110))]) (by decide +kernel) (Nat.le_of_ble_eq_true rfl) rfl (fun p e s m args below meth c C hX hr hk ht => ?_)
  dsimp only [f_L_setValue] at hf
  refine A_aload C (pc := 0) 4 rfl dL_setValue_0 ?_
  refine A_iconst C (pc := 2) ic_0 dL_setValue_2 ?_
  refine A_aload_n C (pc := 3) 0 rfl dL_setValue_3 ?_
  refine A_iload_n C (pc := 4) 1 rfl dL_setValue_4 ?_
  refine A_iload_n C (pc := 5) 2 rfl dL_setValue_5 ?_
  refine A_iload_n C (pc := 6) 3 rfl dL_setValue_6 ?_
  obtain ⟨z7, h7, hf⟩ := bd_i hf
  refine L_callV C (pc := 7) hX (A := [.int x1, .int x2, .int x3]) (rest := [.int 0, .ref (B + 110)]) kl_L_31 ky_X6_setValue kv_X6_setValue (m_X6_setValue l hl9 B D Y o h7) (by decide) rfl rfl rfl rfl (Nat.le_of_ble_eq_true rfl) ⟨rfl, rfl, Nat.le_of_ble_eq_true rfl, Nat.le_of_ble_eq_true rfl⟩ ⟨Nat.le_of_ble_eq_true rfl, Nat.le_of_ble_eq_true rfl⟩ dL_setValue_7 hf (fun E hf => ?_) (fun v7 hf => ?_)
  · by_cases hE0 : E = eI
    · rw [if_pos hE0] at hf
      subst hE0
      refine ⟨[], ⟨0, 12, 15, 13⟩, [⟨0, 12, 19, 15⟩], eI, by rw [ht]; rfl, fun z hz => absurd hz List.not_mem_nil, by decide, by decide, kL_I, kE_I, fun a => ?_⟩
      refine A_astore C (pc := 15) (x := a) [] (by decide) [] rfl dL_setValue_15 ?_
      refine A_iconst C (pc := 17) ic_1 dL_setValue_17 ?_
      exact L_ri (o0 := o) (ov := none) C (pc := 18) hr hk rfl ⟨Nat.le_of_ble_eq_true rfl, Nat.le_of_ble_eq_true rfl⟩ dL_setValue_18 hf
    rw [if_neg hE0] at hf
    by_cases hE1 : E = eA
    · rw [if_pos hE1] at hf
      subst hE1
      refine ⟨[⟨0, 12, 15, 13⟩], ⟨0, 12, 19, 15⟩, [], eA, by rw [ht]; rfl, fun z hz => by
        rcases List.mem_cons.mp hz with rfl | hz
        · exact Or.inr ⟨by decide, eI, kL_I, hX.2.1 _ (List.mem_of_getElem? (i := 0) rfl)⟩
        exact absurd hz List.not_mem_nil, by decide, by decide, kL_A, kE_A, fun a => ?_⟩
      refine A_astore C (pc := 19) (x := a) [] (by decide) [] rfl dL_setValue_19 ?_
      refine A_iconst C (pc := 21) ic_2 dL_setValue_21 ?_
      exact L_ri (o0 := o) (ov := none) C (pc := 22) hr hk rfl ⟨Nat.le_of_ble_eq_true rfl, Nat.le_of_ble_eq_true rfl⟩ dL_setValue_22 hf
    rw [if_neg hE1] at hf
    cases hf
  · refine A_i2l C (pc := 10) dL_setValue_10 ?_
    refine A_last C (pc := 11) dL_setValue_11 ?_
    refine A_goto C (pc := 12) 23 (by decide) dL_setValue_12 ?_
    refine A_iconst C (pc := 23) ic_0 dL_setValue_23 ?_
    exact L_ri (o0 := o) (ov := some v7.toInt64) C (pc := 24) hr hk rfl ⟨Nat.le_of_ble_eq_true rfl, Nat.le_of_ble_eq_true rfl⟩ dL_setValue_24 hf
set_option maxRecDepth 100000 in
theorem m_L_sets (l : Launch) (hl9 : l.stackTraces = false) (B : Nat) (D : va_G) (Y : Nat → ClassId) (o : Ou) {M : Mem} {x1 : Int32} {r : Int32 × Mem × Option Int64} (hf : f_L_sets M x1 = some r) : Met l yL_sets [Cond.codeWith yL_sets cL_sets 4 (some .int) [(0, 9, 12, 13)]] rm_L_sets (va_Pc [.ref (B + 0), .int x1, .ref (B + 110)] (InvX B D Y M o)) (PQ B D Y r.2.1 (oo o r.2.2) (some (.int r.1))) 1 6 (fun q => B ≤ q) := by
  refine ofAtL (L0 := [(0, .ref (B + 0)), (1, .int x1), (2, .ref (B + 110))]) (by decide +kernel) (Nat.le_of_ble_eq_true rfl) rfl (fun p e s m args below meth c C hX hr hk ht => ?_)
  dsimp only [f_L_sets] at hf
  refine A_aload_n C (pc := 0) 2 rfl dL_sets_0 ?_
  refine A_iconst C (pc := 1) ic_0 dL_sets_1 ?_
  refine A_aload_n C (pc := 2) 0 rfl dL_sets_2 ?_
  refine A_iload_n C (pc := 3) 1 rfl dL_sets_3 ?_
  obtain ⟨z4, h4, hf⟩ := bd_i hf
  refine L_callV C (pc := 4) hX (A := [.int x1]) (rest := [.int 0, .ref (B + 110)]) kl_L_118 ky_X6_sets kv_X6_sets (m_X6_sets l hl9 B D Y o h4) (by decide) rfl rfl rfl rfl (Nat.le_of_ble_eq_true rfl) ⟨rfl, rfl, Nat.le_of_ble_eq_true rfl, Nat.le_of_ble_eq_true rfl⟩ ⟨Nat.le_of_ble_eq_true rfl, Nat.le_of_ble_eq_true rfl⟩ dL_sets_4 hf (fun E hf => ?_) (fun v4 hf => ?_)
  · by_cases hE0 : E = eI
    · rw [if_pos hE0] at hf
      subst hE0
      refine ⟨[], ⟨0, 9, 12, 13⟩, [], eI, by rw [ht]; rfl, fun z hz => absurd hz List.not_mem_nil, by decide, by decide, kL_I, kE_I, fun a => ?_⟩
      refine A_astore_n C (pc := 12) (x := a) [] rfl (by decide) [] rfl dL_sets_12 ?_
      refine A_iconst C (pc := 13) ic_1 dL_sets_13 ?_
      exact L_ri (o0 := o) (ov := none) C (pc := 14) hr hk rfl ⟨Nat.le_of_ble_eq_true rfl, Nat.le_of_ble_eq_true rfl⟩ dL_sets_14 hf
    rw [if_neg hE0] at hf
    cases hf
  · refine A_i2l C (pc := 7) dL_sets_7 ?_
    refine A_last C (pc := 8) dL_sets_8 ?_
    refine A_goto C (pc := 9) 15 (by decide) dL_sets_9 ?_
    refine A_iconst C (pc := 15) ic_0 dL_sets_15 ?_
    exact L_ri (o0 := o) (ov := some v4.toInt64) C (pc := 16) hr hk rfl ⟨Nat.le_of_ble_eq_true rfl, Nat.le_of_ble_eq_true rfl⟩ dL_sets_16 hf
set_option maxRecDepth 100000 in
theorem m_L_setsOf (l : Launch) (hl9 : l.stackTraces = false) (B : Nat) (D : va_G) (Y : Nat → ClassId) (o : Ou) {M : Mem} {x1 : Int32} {x2 : Int32} {r : Int32 × Mem × Option Int64} (hf : f_L_setsOf M x1 x2 = some r) : Met l yL_setsOf [Cond.codeWith yL_setsOf cL_setsOf 5 (some .int) [(0, 10, 13, 13)]] rm_L_setsOf (va_Pc [.ref (B + 0), .int x1, .int x2, .ref (B + 110)] (InvX B D Y M o)) (PQ B D Y r.2.1 (oo o r.2.2) (some (.int r.1))) 1 6 (fun q => B ≤ q) := by
  refine ofAtL (L0 := [(0, .ref (B + 0)), (1, .int x1), (2, .int x2), (3, .ref (B + 110))]) (by decide +kernel) (Nat.le_of_ble_eq_true rfl) rfl (fun p e s m args below meth c C hX hr hk ht => ?_)
  dsimp only [f_L_setsOf] at hf
  refine A_aload_n C (pc := 0) 3 rfl dL_setsOf_0 ?_
  refine A_iconst C (pc := 1) ic_0 dL_setsOf_1 ?_
  refine A_aload_n C (pc := 2) 0 rfl dL_setsOf_2 ?_
  refine A_iload_n C (pc := 3) 1 rfl dL_setsOf_3 ?_
  refine A_iload_n C (pc := 4) 2 rfl dL_setsOf_4 ?_
  obtain ⟨z5, h5, hf⟩ := bd_i hf
  refine L_callV C (pc := 5) hX (A := [.int x1, .int x2]) (rest := [.int 0, .ref (B + 110)]) kl_L_121 ky_X6_setsOf kv_X6_setsOf (m_X6_setsOf l hl9 B D Y o h5) (by decide) rfl rfl rfl rfl (Nat.le_of_ble_eq_true rfl) ⟨rfl, rfl, Nat.le_of_ble_eq_true rfl, Nat.le_of_ble_eq_true rfl⟩ ⟨Nat.le_of_ble_eq_true rfl, Nat.le_of_ble_eq_true rfl⟩ dL_setsOf_5 hf (fun E hf => ?_) (fun v5 hf => ?_)
  · by_cases hE0 : E = eI
    · rw [if_pos hE0] at hf
      subst hE0
      refine ⟨[], ⟨0, 10, 13, 13⟩, [], eI, by rw [ht]; rfl, fun z hz => absurd hz List.not_mem_nil, by decide, by decide, kL_I, kE_I, fun a => ?_⟩
      refine A_astore C (pc := 13) (x := a) [] (by decide) [] rfl dL_setsOf_13 ?_
      refine A_iconst C (pc := 15) ic_1 dL_setsOf_15 ?_
      exact L_ri (o0 := o) (ov := none) C (pc := 16) hr hk rfl ⟨Nat.le_of_ble_eq_true rfl, Nat.le_of_ble_eq_true rfl⟩ dL_setsOf_16 hf
    rw [if_neg hE0] at hf
    cases hf
  · refine A_i2l C (pc := 8) dL_setsOf_8 ?_
    refine A_last C (pc := 9) dL_setsOf_9 ?_
    refine A_goto C (pc := 10) 17 (by decide) dL_setsOf_10 ?_
    refine A_iconst C (pc := 17) ic_0 dL_setsOf_17 ?_
    exact L_ri (o0 := o) (ov := some v5.toInt64) C (pc := 18) hr hk rfl ⟨Nat.le_of_ble_eq_true rfl, Nat.le_of_ble_eq_true rfl⟩ dL_setsOf_18 hf
set_option maxRecDepth 100000 in
theorem m_L_share (l : Launch) (hl9 : l.stackTraces = false) (B : Nat) (D : va_G) (Y : Nat → ClassId) (o : Ou) {M : Mem} {x1 : Int32} {x2 : Int32} {x3 : Int32} {r : Int32 × Mem × Option UInt64} (hf : f_L_share M x1 x2 x3 = some r) : Met l yL_share [Cond.codeWith yL_share cL_share 6 (some .int) [(0, 12, 15, 13)]] rm_L_share (va_Pc [.ref (B + 0), .int x1, .int x2, .int x3, .ref (B + 111)] (InvX B D Y M o)) (PQ B D Y r.2.1 (od o r.2.2) (some (.int r.1))) 3 18 (fun q => B ≤ q) := by
  refine ofAtL (L0 := [(0, .ref (B + 0)), (1, .int x1), (2, .int x2), (3, .int x3), (4, .ref (B + 111))]) (by decide +kernel) (Nat.le_of_ble_eq_true rfl) rfl (fun p e s m args below meth c C hX hr hk ht => ?_)
  dsimp only [f_L_share] at hf
  refine A_aload C (pc := 0) 4 rfl dL_share_0 ?_
  refine A_iconst C (pc := 2) ic_0 dL_share_2 ?_
  refine A_aload_n C (pc := 3) 0 rfl dL_share_3 ?_
  refine A_iload_n C (pc := 4) 1 rfl dL_share_4 ?_
  refine A_iload_n C (pc := 5) 2 rfl dL_share_5 ?_
  refine A_iload_n C (pc := 6) 3 rfl dL_share_6 ?_
  obtain ⟨z7, h7, hf⟩ := bd_i hf
  refine L_callV C (pc := 7) hX (A := [.int x1, .int x2, .int x3]) (rest := [.int 0, .ref (B + 111)]) kl_L_168 ky_X6_share kv_X6_share (m_X6_share l hl9 B D Y o h7) (by decide) rfl rfl rfl rfl (Nat.le_of_ble_eq_true rfl) ⟨rfl, rfl, Nat.le_of_ble_eq_true rfl, Nat.le_of_ble_eq_true rfl⟩ ⟨Nat.le_of_ble_eq_true rfl, Nat.le_of_ble_eq_true rfl⟩ dL_share_7 hf (fun E hf => ?_) (fun v7 hf => ?_)
  · by_cases hE0 : E = eI
    · rw [if_pos hE0] at hf
      subst hE0
      refine ⟨[], ⟨0, 12, 15, 13⟩, [], eI, by rw [ht]; rfl, fun z hz => absurd hz List.not_mem_nil, by decide, by decide, kL_I, kE_I, fun a => ?_⟩
      refine A_astore C (pc := 15) (x := a) [] (by decide) [] rfl dL_share_15 ?_
      refine A_iconst C (pc := 17) ic_1 dL_share_17 ?_
      exact L_riD (o0 := o) (ov := none) C (pc := 18) hr hk rfl ⟨Nat.le_of_ble_eq_true rfl, Nat.le_of_ble_eq_true rfl⟩ dL_share_18 hf
    rw [if_neg hE0] at hf
    cases hf
  · obtain ⟨c10, hf⟩ := chk_i hf
    refine A_f2d C (pc := 10) (nn64_i c10) dL_share_10 ?_
    refine A_dast C (pc := 11) dL_share_11 ?_
    refine A_goto C (pc := 12) 19 (by decide) dL_share_12 ?_
    refine A_iconst C (pc := 19) ic_0 dL_share_19 ?_
    exact L_riD (o0 := o) (ov := some (FP.f2d v7)) C (pc := 20) hr hk rfl ⟨Nat.le_of_ble_eq_true rfl, Nat.le_of_ble_eq_true rfl⟩ dL_share_20 hf
set_option maxRecDepth 100000 in
theorem m_L_shared (l : Launch) (hl9 : l.stackTraces = false) (B : Nat) (D : va_G) (Y : Nat → ClassId) (o : Ou) {M : Mem} {x1 : Int32} {x2 : Int32} {r : Int32 × Mem × Option Int64} (hf : f_L_shared M x1 x2 = some r) : Met l yL_shared [Cond.codeWith yL_shared cL_shared 5 (some .int) [(0, 10, 13, 13)]] rm_L_shared (va_Pc [.ref (B + 0), .int x1, .int x2, .ref (B + 110)] (InvX B D Y M o)) (PQ B D Y r.2.1 (oo o r.2.2) (some (.int r.1))) 2 12 (fun q => B ≤ q) := by
  refine ofAtL (L0 := [(0, .ref (B + 0)), (1, .int x1), (2, .int x2), (3, .ref (B + 110))]) (by decide +kernel) (Nat.le_of_ble_eq_true rfl) rfl (fun p e s m args below meth c C hX hr hk ht => ?_)
  dsimp only [f_L_shared] at hf
  refine A_aload_n C (pc := 0) 3 rfl dL_shared_0 ?_
  refine A_iconst C (pc := 1) ic_0 dL_shared_1 ?_
  refine A_aload_n C (pc := 2) 0 rfl dL_shared_2 ?_
  refine A_iload_n C (pc := 3) 1 rfl dL_shared_3 ?_
  refine A_iload_n C (pc := 4) 2 rfl dL_shared_4 ?_
  obtain ⟨z5, h5, hf⟩ := bd_i hf
  refine L_callV C (pc := 5) hX (A := [.int x1, .int x2]) (rest := [.int 0, .ref (B + 110)]) kl_L_143 ky_X6_shared kv_X6_shared (m_X6_shared l hl9 B D Y o h5) (by decide) rfl rfl rfl rfl (Nat.le_of_ble_eq_true rfl) ⟨rfl, rfl, Nat.le_of_ble_eq_true rfl, Nat.le_of_ble_eq_true rfl⟩ ⟨Nat.le_of_ble_eq_true rfl, Nat.le_of_ble_eq_true rfl⟩ dL_shared_5 hf (fun E hf => ?_) (fun v5 hf => ?_)
  · by_cases hE0 : E = eI
    · rw [if_pos hE0] at hf
      subst hE0
      refine ⟨[], ⟨0, 10, 13, 13⟩, [], eI, by rw [ht]; rfl, fun z hz => absurd hz List.not_mem_nil, by decide, by decide, kL_I, kE_I, fun a => ?_⟩
      refine A_astore C (pc := 13) (x := a) [] (by decide) [] rfl dL_shared_13 ?_
      refine A_iconst C (pc := 15) ic_1 dL_shared_15 ?_
      exact L_ri (o0 := o) (ov := none) C (pc := 16) hr hk rfl ⟨Nat.le_of_ble_eq_true rfl, Nat.le_of_ble_eq_true rfl⟩ dL_shared_16 hf
    rw [if_neg hE0] at hf
    cases hf
  · refine A_i2l C (pc := 8) dL_shared_8 ?_
    refine A_last C (pc := 9) dL_shared_9 ?_
    refine A_goto C (pc := 10) 17 (by decide) dL_shared_10 ?_
    refine A_iconst C (pc := 17) ic_0 dL_shared_17 ?_
    exact L_ri (o0 := o) (ov := some v5.toInt64) C (pc := 18) hr hk rfl ⟨Nat.le_of_ble_eq_true rfl, Nat.le_of_ble_eq_true rfl⟩ dL_shared_18 hf
set_option maxRecDepth 100000 in
theorem m_L_sign (l : Launch) (hl9 : l.stackTraces = false) (B : Nat) (D : va_G) (Y : Nat → ClassId) (o : Ou) {M : Mem} {x1 : Int32} {x2 : Int32} {x3 : Int32} {r : Int32 × Mem × Option Int64} (hf : f_L_sign M x1 x2 x3 = some r) : Met l yL_sign [Cond.codeWith yL_sign cL_sign 6 (some .int) [(0, 12, 15, 13)]] rm_L_sign (va_Pc [.ref (B + 0), .int x1, .int x2, .int x3, .ref (B + 110)] (InvX B D Y M o)) (PQ B D Y r.2.1 (oo o r.2.2) (some (.int r.1))) 3 18 (fun q => B ≤ q) := by
  refine ofAtL (L0 := [(0, .ref (B + 0)), (1, .int x1), (2, .int x2), (3, .int x3), (4, .ref (B + 110))]) (by decide +kernel) (Nat.le_of_ble_eq_true rfl) rfl (fun p e s m args below meth c C hX hr hk ht => ?_)
  dsimp only [f_L_sign] at hf
  refine A_aload C (pc := 0) 4 rfl dL_sign_0 ?_
  refine A_iconst C (pc := 2) ic_0 dL_sign_2 ?_
  refine A_aload_n C (pc := 3) 0 rfl dL_sign_3 ?_
  refine A_iload_n C (pc := 4) 1 rfl dL_sign_4 ?_
  refine A_iload_n C (pc := 5) 2 rfl dL_sign_5 ?_
  refine A_iload_n C (pc := 6) 3 rfl dL_sign_6 ?_
  obtain ⟨z7, h7, hf⟩ := bd_i hf
  refine L_callV C (pc := 7) hX (A := [.int x1, .int x2, .int x3]) (rest := [.int 0, .ref (B + 110)]) kl_L_69 ky_X6_sign kv_X6_sign (m_X6_sign l hl9 B D Y o h7) (by decide) rfl rfl rfl rfl (Nat.le_of_ble_eq_true rfl) ⟨rfl, rfl, Nat.le_of_ble_eq_true rfl, Nat.le_of_ble_eq_true rfl⟩ ⟨Nat.le_of_ble_eq_true rfl, Nat.le_of_ble_eq_true rfl⟩ dL_sign_7 hf (fun E hf => ?_) (fun v7 hf => ?_)
  · by_cases hE0 : E = eI
    · rw [if_pos hE0] at hf
      subst hE0
      refine ⟨[], ⟨0, 12, 15, 13⟩, [], eI, by rw [ht]; rfl, fun z hz => absurd hz List.not_mem_nil, by decide, by decide, kL_I, kE_I, fun a => ?_⟩
      refine A_astore C (pc := 15) (x := a) [] (by decide) [] rfl dL_sign_15 ?_
      refine A_iconst C (pc := 17) ic_1 dL_sign_17 ?_
      exact L_ri (o0 := o) (ov := none) C (pc := 18) hr hk rfl ⟨Nat.le_of_ble_eq_true rfl, Nat.le_of_ble_eq_true rfl⟩ dL_sign_18 hf
    rw [if_neg hE0] at hf
    cases hf
  · refine A_i2l C (pc := 10) dL_sign_10 ?_
    refine A_last C (pc := 11) dL_sign_11 ?_
    refine A_goto C (pc := 12) 19 (by decide) dL_sign_12 ?_
    refine A_iconst C (pc := 19) ic_0 dL_sign_19 ?_
    exact L_ri (o0 := o) (ov := some v7.toInt64) C (pc := 20) hr hk rfl ⟨Nat.le_of_ble_eq_true rfl, Nat.le_of_ble_eq_true rfl⟩ dL_sign_20 hf
set_option maxRecDepth 100000 in
theorem m_L_straighten (l : Launch) (hl9 : l.stackTraces = false) (B : Nat) (D : va_G) (Y : Nat → ClassId) (o : Ou) {M : Mem} {x1 : Int32} {x2 : Int32} {r : Int32 × Mem × Option Int64} (hf : f_L_straighten M x1 x2 = some r) : Met l yL_straighten [Cond.codeWith yL_straighten cL_straighten 5 (some .int) [(0, 10, 13, 13)]] rm_L_straighten (va_Pc [.ref (B + 0), .int x1, .int x2, .ref (B + 110)] (InvX B D Y M o)) (PQ B D Y r.2.1 (oo o r.2.2) (some (.int r.1))) 2 12 (fun q => B ≤ q) := by
  refine ofAtL (L0 := [(0, .ref (B + 0)), (1, .int x1), (2, .int x2), (3, .ref (B + 110))]) (by decide +kernel) (Nat.le_of_ble_eq_true rfl) rfl (fun p e s m args below meth c C hX hr hk ht => ?_)
  dsimp only [f_L_straighten] at hf
  refine A_aload_n C (pc := 0) 3 rfl dL_straighten_0 ?_
  refine A_iconst C (pc := 1) ic_0 dL_straighten_1 ?_
  refine A_aload_n C (pc := 2) 0 rfl dL_straighten_2 ?_
  refine A_iload_n C (pc := 3) 1 rfl dL_straighten_3 ?_
  refine A_iload_n C (pc := 4) 2 rfl dL_straighten_4 ?_
  obtain ⟨z5, h5, hf⟩ := bd_i hf
  refine L_callV C (pc := 5) hX (A := [.int x1, .int x2]) (rest := [.int 0, .ref (B + 110)]) kl_L_41 ky_X6_straighten kv_X6_straighten (m_X6_straighten l hl9 B D Y o h5) (by decide) rfl rfl rfl rfl (Nat.le_of_ble_eq_true rfl) ⟨rfl, rfl, Nat.le_of_ble_eq_true rfl, Nat.le_of_ble_eq_true rfl⟩ ⟨Nat.le_of_ble_eq_true rfl, Nat.le_of_ble_eq_true rfl⟩ dL_straighten_5 hf (fun E hf => ?_) (fun v5 hf => ?_)
  · by_cases hE0 : E = eI
    · rw [if_pos hE0] at hf
      subst hE0
      refine ⟨[], ⟨0, 10, 13, 13⟩, [], eI, by rw [ht]; rfl, fun z hz => absurd hz List.not_mem_nil, by decide, by decide, kL_I, kE_I, fun a => ?_⟩
      refine A_astore C (pc := 13) (x := a) [] (by decide) [] rfl dL_straighten_13 ?_
      refine A_iconst C (pc := 15) ic_1 dL_straighten_15 ?_
      exact L_ri (o0 := o) (ov := none) C (pc := 16) hr hk rfl ⟨Nat.le_of_ble_eq_true rfl, Nat.le_of_ble_eq_true rfl⟩ dL_straighten_16 hf
    rw [if_neg hE0] at hf
    cases hf
  · refine A_i2l C (pc := 8) dL_straighten_8 ?_
    refine A_last C (pc := 9) dL_straighten_9 ?_
    refine A_goto C (pc := 10) 17 (by decide) dL_straighten_10 ?_
    refine A_iconst C (pc := 17) ic_0 dL_straighten_17 ?_
    exact L_ri (o0 := o) (ov := some v5.toInt64) C (pc := 18) hr hk rfl ⟨Nat.le_of_ble_eq_true rfl, Nat.le_of_ble_eq_true rfl⟩ dL_straighten_18 hf
set_option maxRecDepth 100000 in
theorem m_L_sum (l : Launch) (hl9 : l.stackTraces = false) (B : Nat) (D : va_G) (Y : Nat → ClassId) (o : Ou) {M : Mem} {x1 : Int32} {x2 : Int32} {r : Int32 × Mem × Option Int64} (hf : f_L_sum M x1 x2 = some r) : Met l yL_sum [Cond.codeWith yL_sum cL_sum 5 (some .int) [(0, 10, 13, 13)]] rm_L_sum (va_Pc [.ref (B + 0), .int x1, .int x2, .ref (B + 110)] (InvX B D Y M o)) (PQ B D Y r.2.1 (oo o r.2.2) (some (.int r.1))) 2 12 (fun q => B ≤ q) := by
  refine ofAtL (L0 := [(0, .ref (B + 0)), (1, .int x1), (2, .int x2), (3, .ref (B + 110))]) (by decide +kernel) (Nat.le_of_ble_eq_true rfl) rfl (fun p e s m args below meth c C hX hr hk ht => ?_)
  dsimp only [f_L_sum] at hf
  refine A_aload_n C (pc := 0) 3 rfl dL_sum_0 ?_
  refine A_iconst C (pc := 1) ic_0 dL_sum_1 ?_
  refine A_aload_n C (pc := 2) 0 rfl dL_sum_2 ?_
  refine A_iload_n C (pc := 3) 1 rfl dL_sum_3 ?_
  refine A_iload_n C (pc := 4) 2 rfl dL_sum_4 ?_
  obtain ⟨z5, h5, hf⟩ := bd_i hf
  refine L_callV C (pc := 5) hX (A := [.int x1, .int x2]) (rest := [.int 0, .ref (B + 110)]) kl_L_172 ky_X6_sum kv_X6_sum (m_X6_sum l hl9 B D Y o h5) (by decide) rfl rfl rfl rfl (Nat.le_of_ble_eq_true rfl) ⟨rfl, rfl, Nat.le_of_ble_eq_true rfl, Nat.le_of_ble_eq_true rfl⟩ ⟨Nat.le_of_ble_eq_true rfl, Nat.le_of_ble_eq_true rfl⟩ dL_sum_5 hf (fun E hf => ?_) (fun v5 hf => ?_)
  · by_cases hE0 : E = eI
    · rw [if_pos hE0] at hf
      subst hE0
      refine ⟨[], ⟨0, 10, 13, 13⟩, [], eI, by rw [ht]; rfl, fun z hz => absurd hz List.not_mem_nil, by decide, by decide, kL_I, kE_I, fun a => ?_⟩
      refine A_astore C (pc := 13) (x := a) [] (by decide) [] rfl dL_sum_13 ?_
      refine A_iconst C (pc := 15) ic_1 dL_sum_15 ?_
      exact L_ri (o0 := o) (ov := none) C (pc := 16) hr hk rfl ⟨Nat.le_of_ble_eq_true rfl, Nat.le_of_ble_eq_true rfl⟩ dL_sum_16 hf
    rw [if_neg hE0] at hf
    cases hf
  · refine A_i2l C (pc := 8) dL_sum_8 ?_
    refine A_last C (pc := 9) dL_sum_9 ?_
    refine A_goto C (pc := 10) 17 (by decide) dL_sum_10 ?_
    refine A_iconst C (pc := 17) ic_0 dL_sum_17 ?_
    exact L_ri (o0 := o) (ov := some v5.toInt64) C (pc := 18) hr hk rfl ⟨Nat.le_of_ble_eq_true rfl, Nat.le_of_ble_eq_true rfl⟩ dL_sum_18 hf
set_option maxRecDepth 100000 in
theorem m_L_things (l : Launch) (hl9 : l.stackTraces = false) (B : Nat) (D : va_G) (Y : Nat → ClassId) (o : Ou) {M : Mem} {x1 : Int32} {r : Int32 × Mem × Option Int64} (hf : f_L_things M x1 = some r) : Met l yL_things [Cond.codeWith yL_things cL_things 4 (some .int) [(0, 9, 12, 13)]] rm_L_things (va_Pc [.ref (B + 0), .int x1, .ref (B + 110)] (InvX B D Y M o)) (PQ B D Y r.2.1 (oo o r.2.2) (some (.int r.1))) 1 6 (fun q => B ≤ q) := by
  refine ofAtL (L0 := [(0, .ref (B + 0)), (1, .int x1), (2, .ref (B + 110))]) (by decide +kernel) (Nat.le_of_ble_eq_true rfl) rfl (fun p e s m args below meth c C hX hr hk ht => ?_)
  dsimp only [f_L_things] at hf
  refine A_aload_n C (pc := 0) 2 rfl dL_things_0 ?_
  refine A_iconst C (pc := 1) ic_0 dL_things_1 ?_
  refine A_aload_n C (pc := 2) 0 rfl dL_things_2 ?_
  refine A_iload_n C (pc := 3) 1 rfl dL_things_3 ?_
  obtain ⟨z4, h4, hf⟩ := bd_i hf
  refine L_callV C (pc := 4) hX (A := [.int x1]) (rest := [.int 0, .ref (B + 110)]) kl_L_60 ky_X6_things kv_X6_things (m_X6_things l hl9 B D Y o h4) (by decide) rfl rfl rfl rfl (Nat.le_of_ble_eq_true rfl) ⟨rfl, rfl, Nat.le_of_ble_eq_true rfl, Nat.le_of_ble_eq_true rfl⟩ ⟨Nat.le_of_ble_eq_true rfl, Nat.le_of_ble_eq_true rfl⟩ dL_things_4 hf (fun E hf => ?_) (fun v4 hf => ?_)
  · by_cases hE0 : E = eI
    · rw [if_pos hE0] at hf
      subst hE0
      refine ⟨[], ⟨0, 9, 12, 13⟩, [], eI, by rw [ht]; rfl, fun z hz => absurd hz List.not_mem_nil, by decide, by decide, kL_I, kE_I, fun a => ?_⟩
      refine A_astore_n C (pc := 12) (x := a) [] rfl (by decide) [] rfl dL_things_12 ?_
      refine A_iconst C (pc := 13) ic_1 dL_things_13 ?_
      exact L_ri (o0 := o) (ov := none) C (pc := 14) hr hk rfl ⟨Nat.le_of_ble_eq_true rfl, Nat.le_of_ble_eq_true rfl⟩ dL_things_14 hf
    rw [if_neg hE0] at hf
    cases hf
  · refine A_i2l C (pc := 7) dL_things_7 ?_
    refine A_last C (pc := 8) dL_things_8 ?_
    refine A_goto C (pc := 9) 15 (by decide) dL_things_9 ?_
    refine A_iconst C (pc := 15) ic_0 dL_things_15 ?_
    exact L_ri (o0 := o) (ov := some v4.toInt64) C (pc := 16) hr hk rfl ⟨Nat.le_of_ble_eq_true rfl, Nat.le_of_ble_eq_true rfl⟩ dL_things_16 hf
set_option maxRecDepth 100000 in
theorem m_L_tops (l : Launch) (hl9 : l.stackTraces = false) (B : Nat) (D : va_G) (Y : Nat → ClassId) (o : Ou) {M : Mem} {x1 : Int32} {x2 : Int32} {r : Int32 × Mem × Option Int64} (hf : f_L_tops M x1 x2 = some r) : Met l yL_tops [Cond.codeWith yL_tops cL_tops 5 (some .int) [(0, 10, 13, 13), (0, 10, 17, 15)]] rm_L_tops (va_Pc [.ref (B + 0), .int x1, .int x2, .ref (B + 110)] (InvX B D Y M o)) (PQ B D Y r.2.1 (oo o r.2.2) (some (.int r.1))) 2 12 (fun q => B ≤ q) := by
  refine ofAtL (L0 := [(0, .ref (B + 0)), (1, .int x1), (2, .int x2), (3, .ref (B + 110))]) (by decide +kernel) (Nat.le_of_ble_eq_true rfl) rfl (fun p e s m args below meth c C hX hr hk ht => ?_)
  dsimp only [f_L_tops] at hf
  refine A_aload_n C (pc := 0) 3 rfl dL_tops_0 ?_
  refine A_iconst C (pc := 1) ic_0 dL_tops_1 ?_
  refine A_aload_n C (pc := 2) 0 rfl dL_tops_2 ?_
  refine A_iload_n C (pc := 3) 1 rfl dL_tops_3 ?_
  refine A_iload_n C (pc := 4) 2 rfl dL_tops_4 ?_
  obtain ⟨z5, h5, hf⟩ := bd_i hf
  refine L_callV C (pc := 5) hX (A := [.int x1, .int x2]) (rest := [.int 0, .ref (B + 110)]) kl_L_140 ky_X6_tops kv_X6_tops (m_X6_tops l hl9 B D Y o h5) (by decide) rfl rfl rfl rfl (Nat.le_of_ble_eq_true rfl) ⟨rfl, rfl, Nat.le_of_ble_eq_true rfl, Nat.le_of_ble_eq_true rfl⟩ ⟨Nat.le_of_ble_eq_true rfl, Nat.le_of_ble_eq_true rfl⟩ dL_tops_5 hf (fun E hf => ?_) (fun v5 hf => ?_)
  · by_cases hE0 : E = eI
    · rw [if_pos hE0] at hf
      subst hE0
      refine ⟨[], ⟨0, 10, 13, 13⟩, [⟨0, 10, 17, 15⟩], eI, by rw [ht]; rfl, fun z hz => absurd hz List.not_mem_nil, by decide, by decide, kL_I, kE_I, fun a => ?_⟩
      refine A_astore C (pc := 13) (x := a) [] (by decide) [] rfl dL_tops_13 ?_
      refine A_iconst C (pc := 15) ic_1 dL_tops_15 ?_
      exact L_ri (o0 := o) (ov := none) C (pc := 16) hr hk rfl ⟨Nat.le_of_ble_eq_true rfl, Nat.le_of_ble_eq_true rfl⟩ dL_tops_16 hf
    rw [if_neg hE0] at hf
    by_cases hE1 : E = eA
    · rw [if_pos hE1] at hf
      subst hE1
      refine ⟨[⟨0, 10, 13, 13⟩], ⟨0, 10, 17, 15⟩, [], eA, by rw [ht]; rfl, fun z hz => by
        rcases List.mem_cons.mp hz with rfl | hz
        · exact Or.inr ⟨by decide, eI, kL_I, hX.2.1 _ (List.mem_of_getElem? (i := 0) rfl)⟩
        exact absurd hz List.not_mem_nil, by decide, by decide, kL_A, kE_A, fun a => ?_⟩
      refine A_astore C (pc := 17) (x := a) [] (by decide) [] rfl dL_tops_17 ?_
      refine A_iconst C (pc := 19) ic_2 dL_tops_19 ?_
      exact L_ri (o0 := o) (ov := none) C (pc := 20) hr hk rfl ⟨Nat.le_of_ble_eq_true rfl, Nat.le_of_ble_eq_true rfl⟩ dL_tops_20 hf
    rw [if_neg hE1] at hf
    cases hf
  · refine A_i2l C (pc := 8) dL_tops_8 ?_
    refine A_last C (pc := 9) dL_tops_9 ?_
    refine A_goto C (pc := 10) 21 (by decide) dL_tops_10 ?_
    refine A_iconst C (pc := 21) ic_0 dL_tops_21 ?_
    exact L_ri (o0 := o) (ov := some v5.toInt64) C (pc := 22) hr hk rfl ⟨Nat.le_of_ble_eq_true rfl, Nat.le_of_ble_eq_true rfl⟩ dL_tops_22 hf
set_option maxRecDepth 100000 in
theorem m_L_turn (l : Launch) (hl9 : l.stackTraces = false) (B : Nat) (D : va_G) (Y : Nat → ClassId) (o : Ou) {M : Mem} {x1 : Int32} {r : Int32 × Mem × Option Int64} (hf : f_L_turn M x1 = some r) : Met l yL_turn [Cond.codeWith yL_turn cL_turn 4 (some .int) [(0, 9, 12, 13)]] rm_L_turn (va_Pc [.ref (B + 0), .int x1, .ref (B + 110)] (InvX B D Y M o)) (PQ B D Y r.2.1 (oo o r.2.2) (some (.int r.1))) 1 6 (fun q => B ≤ q) := by
  refine ofAtL (L0 := [(0, .ref (B + 0)), (1, .int x1), (2, .ref (B + 110))]) (by decide +kernel) (Nat.le_of_ble_eq_true rfl) rfl (fun p e s m args below meth c C hX hr hk ht => ?_)
  dsimp only [f_L_turn] at hf
  refine A_aload_n C (pc := 0) 2 rfl dL_turn_0 ?_
  refine A_iconst C (pc := 1) ic_0 dL_turn_1 ?_
  refine A_aload_n C (pc := 2) 0 rfl dL_turn_2 ?_
  refine A_iload_n C (pc := 3) 1 rfl dL_turn_3 ?_
  obtain ⟨z4, h4, hf⟩ := bd_i hf
  refine L_callV C (pc := 4) hX (A := [.int x1]) (rest := [.int 0, .ref (B + 110)]) kl_L_44 ky_X6_turn kv_X6_turn (m_X6_turn l hl9 B D Y o h4) (by decide) rfl rfl rfl rfl (Nat.le_of_ble_eq_true rfl) ⟨rfl, rfl, Nat.le_of_ble_eq_true rfl, Nat.le_of_ble_eq_true rfl⟩ ⟨Nat.le_of_ble_eq_true rfl, Nat.le_of_ble_eq_true rfl⟩ dL_turn_4 hf (fun E hf => ?_) (fun v4 hf => ?_)
  · by_cases hE0 : E = eI
    · rw [if_pos hE0] at hf
      subst hE0
      refine ⟨[], ⟨0, 9, 12, 13⟩, [], eI, by rw [ht]; rfl, fun z hz => absurd hz List.not_mem_nil, by decide, by decide, kL_I, kE_I, fun a => ?_⟩
      refine A_astore_n C (pc := 12) (x := a) [] rfl (by decide) [] rfl dL_turn_12 ?_
      refine A_iconst C (pc := 13) ic_1 dL_turn_13 ?_
      exact L_ri (o0 := o) (ov := none) C (pc := 14) hr hk rfl ⟨Nat.le_of_ble_eq_true rfl, Nat.le_of_ble_eq_true rfl⟩ dL_turn_14 hf
    rw [if_neg hE0] at hf
    cases hf
  · refine A_i2l C (pc := 7) dL_turn_7 ?_
    refine A_last C (pc := 8) dL_turn_8 ?_
    refine A_goto C (pc := 9) 15 (by decide) dL_turn_9 ?_
    refine A_iconst C (pc := 15) ic_0 dL_turn_15 ?_
    exact L_ri (o0 := o) (ov := some v4.toInt64) C (pc := 16) hr hk rfl ⟨Nat.le_of_ble_eq_true rfl, Nat.le_of_ble_eq_true rfl⟩ dL_turn_16 hf
set_option maxRecDepth 100000 in
theorem m_L_undone (l : Launch) (hl9 : l.stackTraces = false) (B : Nat) (D : va_G) (Y : Nat → ClassId) (o : Ou) {M : Mem} {x1 : Int32} {x2 : Int32} {r : Int32 × Mem × Option Int64} (hf : f_L_undone M x1 x2 = some r) : Met l yL_undone [Cond.codeWith yL_undone cL_undone 5 (some .int) [(0, 10, 13, 13)]] rm_L_undone (va_Pc [.ref (B + 0), .int x1, .int x2, .ref (B + 110)] (InvX B D Y M o)) (PQ B D Y r.2.1 (oo o r.2.2) (some (.int r.1))) 2 12 (fun q => B ≤ q) := by
  refine ofAtL (L0 := [(0, .ref (B + 0)), (1, .int x1), (2, .int x2), (3, .ref (B + 110))]) (by decide +kernel) (Nat.le_of_ble_eq_true rfl) rfl (fun p e s m args below meth c C hX hr hk ht => ?_)
  dsimp only [f_L_undone] at hf
  refine A_aload_n C (pc := 0) 3 rfl dL_undone_0 ?_
  refine A_iconst C (pc := 1) ic_0 dL_undone_1 ?_
  refine A_aload_n C (pc := 2) 0 rfl dL_undone_2 ?_
  refine A_iload_n C (pc := 3) 1 rfl dL_undone_3 ?_
  refine A_iload_n C (pc := 4) 2 rfl dL_undone_4 ?_
  obtain ⟨z5, h5, hf⟩ := bd_i hf
  refine L_callV C (pc := 5) hX (A := [.int x1, .int x2]) (rest := [.int 0, .ref (B + 110)]) kl_L_178 ky_X6_undone kv_X6_undone (m_X6_undone l hl9 B D Y o h5) (by decide) rfl rfl rfl rfl (Nat.le_of_ble_eq_true rfl) ⟨rfl, rfl, Nat.le_of_ble_eq_true rfl, Nat.le_of_ble_eq_true rfl⟩ ⟨Nat.le_of_ble_eq_true rfl, Nat.le_of_ble_eq_true rfl⟩ dL_undone_5 hf (fun E hf => ?_) (fun v5 hf => ?_)
  · by_cases hE0 : E = eI
    · rw [if_pos hE0] at hf
      subst hE0
      refine ⟨[], ⟨0, 10, 13, 13⟩, [], eI, by rw [ht]; rfl, fun z hz => absurd hz List.not_mem_nil, by decide, by decide, kL_I, kE_I, fun a => ?_⟩
      refine A_astore C (pc := 13) (x := a) [] (by decide) [] rfl dL_undone_13 ?_
      refine A_iconst C (pc := 15) ic_1 dL_undone_15 ?_
      exact L_ri (o0 := o) (ov := none) C (pc := 16) hr hk rfl ⟨Nat.le_of_ble_eq_true rfl, Nat.le_of_ble_eq_true rfl⟩ dL_undone_16 hf
    rw [if_neg hE0] at hf
    cases hf
  · refine A_i2l C (pc := 8) dL_undone_8 ?_
    refine A_last C (pc := 9) dL_undone_9 ?_
    refine A_goto C (pc := 10) 17 (by decide) dL_undone_10 ?_
    refine A_iconst C (pc := 17) ic_0 dL_undone_17 ?_
    exact L_ri (o0 := o) (ov := some v5.toInt64) C (pc := 18) hr hk rfl ⟨Nat.le_of_ble_eq_true rfl, Nat.le_of_ble_eq_true rfl⟩ dL_undone_18 hf
set_option maxRecDepth 100000 in
theorem m_L_upper (l : Launch) (hl9 : l.stackTraces = false) (B : Nat) (D : va_G) (Y : Nat → ClassId) (o : Ou) {M : Mem} {x1 : Int32} {x2 : Int32} {r : Int32 × Mem × Option Int64} (hf : f_L_upper M x1 x2 = some r) : Met l yL_upper [Cond.codeWith yL_upper cL_upper 5 (some .int) [(0, 10, 13, 13)]] rm_L_upper (va_Pc [.ref (B + 0), .int x1, .int x2, .ref (B + 110)] (InvX B D Y M o)) (PQ B D Y r.2.1 (oo o r.2.2) (some (.int r.1))) 2 12 (fun q => B ≤ q) := by
  refine ofAtL (L0 := [(0, .ref (B + 0)), (1, .int x1), (2, .int x2), (3, .ref (B + 110))]) (by decide +kernel) (Nat.le_of_ble_eq_true rfl) rfl (fun p e s m args below meth c C hX hr hk ht => ?_)
  dsimp only [f_L_upper] at hf
  refine A_aload_n C (pc := 0) 3 rfl dL_upper_0 ?_
  refine A_iconst C (pc := 1) ic_0 dL_upper_1 ?_
  refine A_aload_n C (pc := 2) 0 rfl dL_upper_2 ?_
  refine A_iload_n C (pc := 3) 1 rfl dL_upper_3 ?_
  refine A_iload_n C (pc := 4) 2 rfl dL_upper_4 ?_
  obtain ⟨z5, h5, hf⟩ := bd_i hf
  refine L_callV C (pc := 5) hX (A := [.int x1, .int x2]) (rest := [.int 0, .ref (B + 110)]) kl_L_80 ky_X6_upper kv_X6_upper (m_X6_upper l hl9 B D Y o h5) (by decide) rfl rfl rfl rfl (Nat.le_of_ble_eq_true rfl) ⟨rfl, rfl, Nat.le_of_ble_eq_true rfl, Nat.le_of_ble_eq_true rfl⟩ ⟨Nat.le_of_ble_eq_true rfl, Nat.le_of_ble_eq_true rfl⟩ dL_upper_5 hf (fun E hf => ?_) (fun v5 hf => ?_)
  · by_cases hE0 : E = eI
    · rw [if_pos hE0] at hf
      subst hE0
      refine ⟨[], ⟨0, 10, 13, 13⟩, [], eI, by rw [ht]; rfl, fun z hz => absurd hz List.not_mem_nil, by decide, by decide, kL_I, kE_I, fun a => ?_⟩
      refine A_astore C (pc := 13) (x := a) [] (by decide) [] rfl dL_upper_13 ?_
      refine A_iconst C (pc := 15) ic_1 dL_upper_15 ?_
      exact L_ri (o0 := o) (ov := none) C (pc := 16) hr hk rfl ⟨Nat.le_of_ble_eq_true rfl, Nat.le_of_ble_eq_true rfl⟩ dL_upper_16 hf
    rw [if_neg hE0] at hf
    cases hf
  · refine A_i2l C (pc := 8) dL_upper_8 ?_
    refine A_last C (pc := 9) dL_upper_9 ?_
    refine A_goto C (pc := 10) 17 (by decide) dL_upper_10 ?_
    refine A_iconst C (pc := 17) ic_0 dL_upper_17 ?_
    exact L_ri (o0 := o) (ov := some v5.toInt64) C (pc := 18) hr hk rfl ⟨Nat.le_of_ble_eq_true rfl, Nat.le_of_ble_eq_true rfl⟩ dL_upper_18 hf
set_option maxRecDepth 100000 in
theorem m_L_value (l : Launch) (hl9 : l.stackTraces = false) (B : Nat) (D : va_G) (Y : Nat → ClassId) (o : Ou) {M : Mem} {x1 : Int32} {x2 : Int32} {r : Int32 × Mem × Option Int64} (hf : f_L_value M x1 x2 = some r) : Met l yL_value [Cond.codeWith yL_value cL_value 5 (some .int) [(0, 10, 13, 13)]] rm_L_value (va_Pc [.ref (B + 0), .int x1, .int x2, .ref (B + 110)] (InvX B D Y M o)) (PQ B D Y r.2.1 (oo o r.2.2) (some (.int r.1))) 2 12 (fun q => B ≤ q) := by
  refine ofAtL (L0 := [(0, .ref (B + 0)), (1, .int x1), (2, .int x2), (3, .ref (B + 110))]) (by decide +kernel) (Nat.le_of_ble_eq_true rfl) rfl (fun p e s m args below meth c C hX hr hk ht => ?_)
  dsimp only [f_L_value] at hf
  refine A_aload_n C (pc := 0) 3 rfl dL_value_0 ?_
  refine A_iconst C (pc := 1) ic_0 dL_value_1 ?_
  refine A_aload_n C (pc := 2) 0 rfl dL_value_2 ?_
  refine A_iload_n C (pc := 3) 1 rfl dL_value_3 ?_
  refine A_iload_n C (pc := 4) 2 rfl dL_value_4 ?_
  obtain ⟨z5, h5, hf⟩ := bd_i hf
  refine L_callV C (pc := 5) hX (A := [.int x1, .int x2]) (rest := [.int 0, .ref (B + 110)]) kl_L_87 ky_X6_value kv_X6_value (m_X6_value l hl9 B D Y o h5) (by decide) rfl rfl rfl rfl (Nat.le_of_ble_eq_true rfl) ⟨rfl, rfl, Nat.le_of_ble_eq_true rfl, Nat.le_of_ble_eq_true rfl⟩ ⟨Nat.le_of_ble_eq_true rfl, Nat.le_of_ble_eq_true rfl⟩ dL_value_5 hf (fun E hf => ?_) (fun v5 hf => ?_)
  · by_cases hE0 : E = eI
    · rw [if_pos hE0] at hf
      subst hE0
      refine ⟨[], ⟨0, 10, 13, 13⟩, [], eI, by rw [ht]; rfl, fun z hz => absurd hz List.not_mem_nil, by decide, by decide, kL_I, kE_I, fun a => ?_⟩
      refine A_astore C (pc := 13) (x := a) [] (by decide) [] rfl dL_value_13 ?_
      refine A_iconst C (pc := 15) ic_1 dL_value_15 ?_
      exact L_ri (o0 := o) (ov := none) C (pc := 16) hr hk rfl ⟨Nat.le_of_ble_eq_true rfl, Nat.le_of_ble_eq_true rfl⟩ dL_value_16 hf
    rw [if_neg hE0] at hf
    cases hf
  · refine A_i2l C (pc := 8) dL_value_8 ?_
    refine A_last C (pc := 9) dL_value_9 ?_
    refine A_goto C (pc := 10) 17 (by decide) dL_value_10 ?_
    refine A_iconst C (pc := 17) ic_0 dL_value_17 ?_
    exact L_ri (o0 := o) (ov := some v5.toInt64) C (pc := 18) hr hk rfl ⟨Nat.le_of_ble_eq_true rfl, Nat.le_of_ble_eq_true rfl⟩ dL_value_18 hf
set_option maxRecDepth 100000 in
theorem m_L_widest (l : Launch) (hl9 : l.stackTraces = false) (B : Nat) (D : va_G) (Y : Nat → ClassId) (o : Ou) {M : Mem} {x1 : Int32} {r : Int32 × Mem × Option Int64} (hf : f_L_widest M x1 = some r) : Met l yL_widest [Cond.codeWith yL_widest cL_widest 4 (some .int) [(0, 9, 12, 13)]] rm_L_widest (va_Pc [.ref (B + 0), .int x1, .ref (B + 110)] (InvX B D Y M o)) (PQ B D Y r.2.1 (oo o r.2.2) (some (.int r.1))) 1 6 (fun q => B ≤ q) := by
  refine ofAtL (L0 := [(0, .ref (B + 0)), (1, .int x1), (2, .ref (B + 110))]) (by decide +kernel) (Nat.le_of_ble_eq_true rfl) rfl (fun p e s m args below meth c C hX hr hk ht => ?_)
  dsimp only [f_L_widest] at hf
  refine A_aload_n C (pc := 0) 2 rfl dL_widest_0 ?_
  refine A_iconst C (pc := 1) ic_0 dL_widest_1 ?_
  refine A_aload_n C (pc := 2) 0 rfl dL_widest_2 ?_
  refine A_iload_n C (pc := 3) 1 rfl dL_widest_3 ?_
  obtain ⟨z4, h4, hf⟩ := bd_i hf
  refine L_callV C (pc := 4) hX (A := [.int x1]) (rest := [.int 0, .ref (B + 110)]) kl_L_106 ky_X6_widest kv_X6_widest (m_X6_widest l hl9 B D Y o h4) (by decide) rfl rfl rfl rfl (Nat.le_of_ble_eq_true rfl) ⟨rfl, rfl, Nat.le_of_ble_eq_true rfl, Nat.le_of_ble_eq_true rfl⟩ ⟨Nat.le_of_ble_eq_true rfl, Nat.le_of_ble_eq_true rfl⟩ dL_widest_4 hf (fun E hf => ?_) (fun v4 hf => ?_)
  · by_cases hE0 : E = eI
    · rw [if_pos hE0] at hf
      subst hE0
      refine ⟨[], ⟨0, 9, 12, 13⟩, [], eI, by rw [ht]; rfl, fun z hz => absurd hz List.not_mem_nil, by decide, by decide, kL_I, kE_I, fun a => ?_⟩
      refine A_astore_n C (pc := 12) (x := a) [] rfl (by decide) [] rfl dL_widest_12 ?_
      refine A_iconst C (pc := 13) ic_1 dL_widest_13 ?_
      exact L_ri (o0 := o) (ov := none) C (pc := 14) hr hk rfl ⟨Nat.le_of_ble_eq_true rfl, Nat.le_of_ble_eq_true rfl⟩ dL_widest_14 hf
    rw [if_neg hE0] at hf
    cases hf
  · refine A_i2l C (pc := 7) dL_widest_7 ?_
    refine A_last C (pc := 8) dL_widest_8 ?_
    refine A_goto C (pc := 9) 15 (by decide) dL_widest_9 ?_
    refine A_iconst C (pc := 15) ic_0 dL_widest_15 ?_
    exact L_ri (o0 := o) (ov := some v4.toInt64) C (pc := 16) hr hk rfl ⟨Nat.le_of_ble_eq_true rfl, Nat.le_of_ble_eq_true rfl⟩ dL_widest_16 hf
end WL
