section WX
variable {p : Program} {l : Launch} {e : Env} {s : State} {m : MethodId} {args : Array Value} {below : List Frame} {meth : Method} {c : Code} {B : Nat} {D : va_G} {Y : Nat → ClassId} {o : Ou}
set_option maxRecDepth 100000 in
theorem m_X6_orderAt (l : Launch) (hl9 : l.stackTraces = false) (B : Nat) (D : va_G) (Y : Nat → ClassId) (o : Ou) {M : Mem} {x1 : Int32} {r : (String ⊕ Nat) × Mem}  (hf : f_X6_orderAt M x1 = some r) : XW l yX6_orderAt cX6_orderAt 2 (some (.object "Belowhouse$Order")) rm_X6_orderAt 1 6 B D Y o [.ref (B + 0), .int x1] M (tvR B) r := by
  refine ofAtX (L0 := [(0, .ref (B + 0)), (1, .int x1)]) (by decide +kernel) (Nat.le_of_ble_eq_true rfl) rfl (fun p e s m args below meth c C hX hr hk hout => ?_)
  dsimp only [f_X6_orderAt] at hf
  refine A_iload_n C (pc := 0) 1 rfl dX6_orderAt_0 ?_
  refine A_if_lt C (pc := 1) 9 (by decide) dX6_orderAt_1 hf (fun _ hf => ?_) (fun _ hf => ?_)
  · exact X_thrW C (pc := 9) hX hl9 hk hout kt_X6_199_203 (List.mem_of_getElem? (i := 0) rfl) dX6_orderAt_9 dX6_orderAt_12 dX6_orderAt_13 dX6_orderAt_16 dX6_orderAt_19 (Nat.le_of_ble_eq_true rfl) (Nat.le_of_ble_eq_true rfl) ⟨Nat.le_of_ble_eq_true rfl, Nat.le_of_ble_eq_true rfl⟩ ⟨Nat.le_of_ble_eq_true rfl, Nat.le_of_ble_eq_true rfl⟩ hf
  · refine A_iload_n C (pc := 4) 1 rfl dX6_orderAt_4 ?_
    refine A_iconst C (pc := 5) ic_4 dX6_orderAt_5 ?_
    refine A_icmp_lt C (pc := 6) 20 (by decide) dX6_orderAt_6 hf (fun _ hf => ?_) (fun _ hf => ?_)
    · refine A_aload_n C (pc := 20) 0 rfl dX6_orderAt_20 ?_
      refine A_g6_0 C (pc := 21) kf_X6_11 dX6_orderAt_21 ?_
      refine A_iload_n C (pc := 24) 1 rfl dX6_orderAt_24 ?_
      obtain ⟨c25, hf⟩ := chk_i hf
      refine A_aO C (pc := 25) c25 dX6_orderAt_25 ?_
      exact X_ra C (pc := 26) hr (Or.inl ⟨_, rfl⟩) hk ⟨Nat.le_of_ble_eq_true rfl, Nat.le_of_ble_eq_true rfl⟩ dX6_orderAt_26 hf
    · exact X_thrW C (pc := 9) hX hl9 hk hout kt_X6_199_203 (List.mem_of_getElem? (i := 0) rfl) dX6_orderAt_9 dX6_orderAt_12 dX6_orderAt_13 dX6_orderAt_16 dX6_orderAt_19 (Nat.le_of_ble_eq_true rfl) (Nat.le_of_ble_eq_true rfl) ⟨Nat.le_of_ble_eq_true rfl, Nat.le_of_ble_eq_true rfl⟩ ⟨Nat.le_of_ble_eq_true rfl, Nat.le_of_ble_eq_true rfl⟩ hf
set_option maxRecDepth 100000 in
theorem m_X6_nexts (l : Launch) (hl9 : l.stackTraces = false) (B : Nat) (D : va_G) (Y : Nat → ClassId) (o : Ou) {M : Mem} {x1 : Int32} {r : (String ⊕ Int32) × Mem}  (hf : f_X6_nexts M x1 = some r) : XW l yX6_nexts cX6_nexts 2 (some .int) rm_X6_nexts 1 6 B D Y o [.ref (B + 0), .int x1] M tvI r := by
  refine ofAtX (L0 := [(0, .ref (B + 0)), (1, .int x1)]) (by decide +kernel) (Nat.le_of_ble_eq_true rfl) rfl (fun p e s m args below meth c C hX hr hk hout => ?_)
  dsimp only [f_X6_nexts] at hf
  refine A_aload_n C (pc := 0) 0 rfl dX6_nexts_0 ?_
  refine A_iload_n C (pc := 1) 1 rfl dX6_nexts_1 ?_
  obtain ⟨z2, h2, hf⟩ := bd_i hf
  refine X_callV C (pc := 2) hX hk hout (A := [.int x1]) (rest := []) kl_X6_48 ky_X6_orderAt kv_X6_orderAt (m_X6_orderAt l hl9 B D Y o  h2) (by decide) rfl rfl rfl rfl (Nat.le_of_ble_eq_true rfl) ⟨rfl, rfl, Nat.le_of_ble_eq_true rfl, Nat.le_of_ble_eq_true rfl⟩ ⟨Nat.le_of_ble_eq_true rfl, Nat.le_of_ble_eq_true rfl⟩ ⟨Nat.le_of_ble_eq_true rfl, Nat.le_of_ble_eq_true rfl⟩ dX6_nexts_2 hf (fun v2 _ hf => ?_)
  obtain ⟨k2, hf⟩ := chk_i hf
  obtain ⟨z5, h5, hf⟩ := bd_i hf
  refine A_callV1 C (pc := 5) (A := []) (rest := []) k_X6_143 ky_X3_nextCount kv_X3_nextCount (m_X3_nextCount l B D Y o ((of_decide_eq_true k2)) h5) (kO ((of_decide_eq_true k2))).1 (ent2 ((of_decide_eq_true k2))) rfl rfl rfl (Nat.le_of_ble_eq_true rfl) ⟨rfl, rfl, Nat.le_of_ble_eq_true rfl, Nat.le_of_ble_eq_true rfl⟩ ⟨Nat.le_of_ble_eq_true rfl, Nat.le_of_ble_eq_true rfl⟩ dX6_nexts_5 ?_
  exact X_ri C (pc := 8) hr hk rfl ⟨Nat.le_of_ble_eq_true rfl, Nat.le_of_ble_eq_true rfl⟩ dX6_nexts_8 hf
set_option maxRecDepth 100000 in
theorem m_X6_orderWith (l : Launch) (hl9 : l.stackTraces = false) (B : Nat) (D : va_G) (Y : Nat → ClassId) (o : Ou) {M : Mem} {x1 : Int32} {x2 : Int32} {r : (String ⊕ Nat) × Mem}  (hf : f_X6_orderWith M x1 x2 = some r) : XW l yX6_orderWith cX6_orderWith 4 (some (.object "Belowhouse$Order")) rm_X6_orderWith 2 12 B D Y o [.ref (B + 0), .int x1, .int x2] M (tvR B) r := by
  refine ofAtX (L0 := [(0, .ref (B + 0)), (1, .int x1), (2, .int x2)]) (by decide +kernel) (Nat.le_of_ble_eq_true rfl) rfl (fun p e s m args below meth c C hX hr hk hout => ?_)
  dsimp only [f_X6_orderWith] at hf
  refine A_aload_n C (pc := 0) 0 rfl dX6_orderWith_0 ?_
  refine A_iload_n C (pc := 1) 1 rfl dX6_orderWith_1 ?_
  obtain ⟨z2, h2, hf⟩ := bd_i hf
  refine X_callV C (pc := 2) hX hk hout (A := [.int x1]) (rest := []) kl_X6_48 ky_X6_orderAt kv_X6_orderAt (m_X6_orderAt l hl9 B D Y o  h2) (by decide) rfl rfl rfl rfl (Nat.le_of_ble_eq_true rfl) ⟨rfl, rfl, Nat.le_of_ble_eq_true rfl, Nat.le_of_ble_eq_true rfl⟩ ⟨Nat.le_of_ble_eq_true rfl, Nat.le_of_ble_eq_true rfl⟩ ⟨Nat.le_of_ble_eq_true rfl, Nat.le_of_ble_eq_true rfl⟩ dX6_orderWith_2 hf (fun v2 _ hf => ?_)
  obtain ⟨k2, hf⟩ := chk_i hf
  refine A_astore_n C (pc := 5) [(2, .int x2), (3, .ref (B + v2))] rfl (by decide) [3, 0] rfl dX6_orderWith_5 ?_
  refine A_aload_n C (pc := 6) 1 rfl dX6_orderWith_6 ?_
  refine A_iload_n C (pc := 7) 0 rfl dX6_orderWith_7 ?_
  obtain ⟨z8, h8, hf⟩ := bd_i hf
  refine A_callV1 C (pc := 8) (A := [.int x2]) (rest := []) k_X6_281 ky_X3_hasThing kv_X3_hasThing (m_X3_hasThing l B D Y o ((of_decide_eq_true k2)) h8) (kO ((of_decide_eq_true k2))).1 (ent2 ((of_decide_eq_true k2))) rfl rfl rfl (Nat.le_of_ble_eq_true rfl) ⟨rfl, rfl, Nat.le_of_ble_eq_true rfl, Nat.le_of_ble_eq_true rfl⟩ ⟨Nat.le_of_ble_eq_true rfl, Nat.le_of_ble_eq_true rfl⟩ dX6_orderWith_8 ?_
  refine A_if_ne C (pc := 11) 25 (by decide) dX6_orderWith_11 hf (fun _ hf => ?_) (fun _ hf => ?_)
  · refine A_aload_n C (pc := 25) 1 rfl dX6_orderWith_25 ?_
    exact X_ra C (pc := 26) hr (Or.inl ⟨_, rfl⟩) hk ⟨Nat.le_of_ble_eq_true rfl, Nat.le_of_ble_eq_true rfl⟩ dX6_orderWith_26 hf
  · exact X_thrW C (pc := 14) hX hl9 hk hout kt_X6_199_203 (List.mem_of_getElem? (i := 4) rfl) dX6_orderWith_14 dX6_orderWith_17 dX6_orderWith_18 dX6_orderWith_21 dX6_orderWith_24 (Nat.le_of_ble_eq_true rfl) (Nat.le_of_ble_eq_true rfl) ⟨Nat.le_of_ble_eq_true rfl, Nat.le_of_ble_eq_true rfl⟩ ⟨Nat.le_of_ble_eq_true rfl, Nat.le_of_ble_eq_true rfl⟩ hf
set_option maxRecDepth 100000 in
theorem m_X6_upper (l : Launch) (hl9 : l.stackTraces = false) (B : Nat) (D : va_G) (Y : Nat → ClassId) (o : Ou) {M : Mem} {x1 : Int32} {x2 : Int32} {r : (String ⊕ Int32) × Mem}  (hf : f_X6_upper M x1 x2 = some r) : XW l yX6_upper cX6_upper 3 (some .int) rm_X6_upper 2 12 B D Y o [.ref (B + 0), .int x1, .int x2] M tvI r := by
  refine ofAtX (L0 := [(0, .ref (B + 0)), (1, .int x1), (2, .int x2)]) (by decide +kernel) (Nat.le_of_ble_eq_true rfl) rfl (fun p e s m args below meth c C hX hr hk hout => ?_)
  dsimp only [f_X6_upper] at hf
  refine A_aload_n C (pc := 0) 0 rfl dX6_upper_0 ?_
  refine A_iload_n C (pc := 1) 1 rfl dX6_upper_1 ?_
  refine A_iload_n C (pc := 2) 2 rfl dX6_upper_2 ?_
  obtain ⟨z3, h3, hf⟩ := bd_i hf
  refine X_callV C (pc := 3) hX hk hout (A := [.int x1, .int x2]) (rest := []) kl_X6_84 ky_X6_orderWith kv_X6_orderWith (m_X6_orderWith l hl9 B D Y o  h3) (by decide) rfl rfl rfl rfl (Nat.le_of_ble_eq_true rfl) ⟨rfl, rfl, Nat.le_of_ble_eq_true rfl, Nat.le_of_ble_eq_true rfl⟩ ⟨Nat.le_of_ble_eq_true rfl, Nat.le_of_ble_eq_true rfl⟩ ⟨Nat.le_of_ble_eq_true rfl, Nat.le_of_ble_eq_true rfl⟩ dX6_upper_3 hf (fun v3 _ hf => ?_)
  obtain ⟨k3, hf⟩ := chk_i hf
  refine A_iload_n C (pc := 6) 2 rfl dX6_upper_6 ?_
  obtain ⟨z7, h7, hf⟩ := bd_i hf
  refine A_callV1 C (pc := 7) (A := [.int x2]) (rest := []) k_X6_152 ky_X3_aboveOf kv_X3_aboveOf (m_X3_aboveOf l B D Y o ((of_decide_eq_true k3)) h7) (kO ((of_decide_eq_true k3))).1 (ent2 ((of_decide_eq_true k3))) rfl rfl rfl (Nat.le_of_ble_eq_true rfl) ⟨rfl, rfl, Nat.le_of_ble_eq_true rfl, Nat.le_of_ble_eq_true rfl⟩ ⟨Nat.le_of_ble_eq_true rfl, Nat.le_of_ble_eq_true rfl⟩ dX6_upper_7 ?_
  exact X_ri C (pc := 10) hr hk rfl ⟨Nat.le_of_ble_eq_true rfl, Nat.le_of_ble_eq_true rfl⟩ dX6_upper_10 hf
set_option maxRecDepth 100000 in
theorem m_X6_rowsAt (l : Launch) (hl9 : l.stackTraces = false) (B : Nat) (D : va_G) (Y : Nat → ClassId) (o : Ou) {M : Mem} {x1 : Int32} {x2 : Int32} {x3 : Int32} {r : (String ⊕ Int32) × Mem}  (hf : f_X6_rowsAt M x1 x2 x3 = some r) : XW l yX6_rowsAt cX6_rowsAt 5 (some .int) rm_X6_rowsAt 2 12 B D Y o [.ref (B + 0), .int x1, .int x2, .int x3] M tvI r := by
  refine ofAtX (L0 := [(0, .ref (B + 0)), (1, .int x1), (2, .int x2), (3, .int x3)]) (by decide +kernel) (Nat.le_of_ble_eq_true rfl) rfl (fun p e s m args below meth c C hX hr hk hout => ?_)
  dsimp only [f_X6_rowsAt] at hf
  refine A_aload_n C (pc := 0) 0 rfl dX6_rowsAt_0 ?_
  refine A_iload_n C (pc := 1) 1 rfl dX6_rowsAt_1 ?_
  refine A_iload_n C (pc := 2) 2 rfl dX6_rowsAt_2 ?_
  obtain ⟨z3, h3, hf⟩ := bd_i hf
  refine X_callV C (pc := 3) hX hk hout (A := [.int x1, .int x2]) (rest := []) kl_X6_84 ky_X6_orderWith kv_X6_orderWith (m_X6_orderWith l hl9 B D Y o  h3) (by decide) rfl rfl rfl rfl (Nat.le_of_ble_eq_true rfl) ⟨rfl, rfl, Nat.le_of_ble_eq_true rfl, Nat.le_of_ble_eq_true rfl⟩ ⟨Nat.le_of_ble_eq_true rfl, Nat.le_of_ble_eq_true rfl⟩ ⟨Nat.le_of_ble_eq_true rfl, Nat.le_of_ble_eq_true rfl⟩ dX6_rowsAt_3 hf (fun v3 _ hf => ?_)
  obtain ⟨k3, hf⟩ := chk_i hf
  refine A_astore C (pc := 6) [(0, .ref (B + 0)), (2, .int x2), (3, .int x3), (4, .ref (B + v3))] (by decide) [1, 3, 4, 0] rfl dX6_rowsAt_6 ?_
  refine A_aload_n C (pc := 8) 0 rfl dX6_rowsAt_8 ?_
  refine A_g6_3 C (pc := 9) kf_X6_30 dX6_rowsAt_9 ?_
  refine A_aload C (pc := 12) 3 rfl dX6_rowsAt_12 ?_
  obtain ⟨z14, h14, hf⟩ := bd_i hf
  refine A_callV1 C (pc := 14) (A := [.ref (B + v3)]) (rest := []) k_X6_240 ky_X4_fill kv_X4_fill (m_X4_fill l B D Y o ((show kd 20 = 4 from rfl)) ((of_decide_eq_true k3)) h14) (kR ((show kd 20 = 4 from rfl))).1 (ent4 ((show kd 20 = 4 from rfl))) rfl rfl rfl (Nat.le_of_ble_eq_true rfl) ⟨rfl, rfl, Nat.le_of_ble_eq_true rfl, Nat.le_of_ble_eq_true rfl⟩ ⟨Nat.le_of_ble_eq_true rfl, Nat.le_of_ble_eq_true rfl⟩ dX6_rowsAt_14 ?_
  refine A_pop C (pc := 17) rfl dX6_rowsAt_17 ?_
  refine A_aload_n C (pc := 18) 0 rfl dX6_rowsAt_18 ?_
  refine A_g6_3 C (pc := 19) kf_X6_30 dX6_rowsAt_19 ?_
  refine A_aload C (pc := 22) 3 rfl dX6_rowsAt_22 ?_
  refine A_iload_n C (pc := 24) 1 rfl dX6_rowsAt_24 ?_
  refine A_iload_n C (pc := 25) 2 rfl dX6_rowsAt_25 ?_
  obtain ⟨z26, h26, hf⟩ := bd_i hf
  refine A_callV1 C (pc := 26) (A := [.ref (B + v3), .int x2, .int x3]) (rest := []) k_X6_246 ky_X4_countAtPlace kv_X4_countAtPlace (m_X4_countAtPlace l B D Y o ((show kd 20 = 4 from rfl)) ((of_decide_eq_true k3)) h26) (kR ((show kd 20 = 4 from rfl))).1 (ent4 ((show kd 20 = 4 from rfl))) rfl rfl rfl (Nat.le_of_ble_eq_true rfl) ⟨rfl, rfl, Nat.le_of_ble_eq_true rfl, Nat.le_of_ble_eq_true rfl⟩ ⟨Nat.le_of_ble_eq_true rfl, Nat.le_of_ble_eq_true rfl⟩ dX6_rowsAt_26 ?_
  exact X_ri C (pc := 29) hr hk rfl ⟨Nat.le_of_ble_eq_true rfl, Nat.le_of_ble_eq_true rfl⟩ dX6_rowsAt_29 hf
set_option maxRecDepth 100000 in
theorem m_X6_refuseOddValue (l : Launch) (hl9 : l.stackTraces = false) (B : Nat) (D : va_G) (Y : Nat → ClassId) (o : Ou) {M : Mem} {x0 : Int32} {r : (String ⊕ Unit) × Mem}  (hf : f_X6_refuseOddValue M x0 = some r) : XW l yX6_refuseOddValue cX6_refuseOddValue 1 none rm_X6_refuseOddValue 1 6 B D Y o [.int x0] M tvU r := by
  refine ofAtX (L0 := [(0, .int x0)]) (by decide +kernel) (Nat.le_of_ble_eq_true rfl) rfl (fun p e s m args below meth c C hX hr hk hout => ?_)
  dsimp only [f_X6_refuseOddValue] at hf
  refine A_iload_n C (pc := 0) 0 rfl dX6_refuseOddValue_0 ?_
  refine A_sipush C (pc := 1) sc_m1000 dX6_refuseOddValue_1 ?_
  refine A_icmp_lt C (pc := 4) 14 (by decide) dX6_refuseOddValue_4 hf (fun _ hf => ?_) (fun _ hf => ?_)
  · exact X_thrW C (pc := 14) hX hl9 hk hout kt_X6_216_220 (List.mem_of_getElem? (i := 2) rfl) dX6_refuseOddValue_14 dX6_refuseOddValue_17 dX6_refuseOddValue_18 dX6_refuseOddValue_21 dX6_refuseOddValue_24 (Nat.le_of_ble_eq_true rfl) (Nat.le_of_ble_eq_true rfl) ⟨Nat.le_of_ble_eq_true rfl, Nat.le_of_ble_eq_true rfl⟩ ⟨Nat.le_of_ble_eq_true rfl, Nat.le_of_ble_eq_true rfl⟩ hf
  · refine A_iload_n C (pc := 7) 0 rfl dX6_refuseOddValue_7 ?_
    refine A_sipush C (pc := 8) sc_1000 dX6_refuseOddValue_8 ?_
    refine A_icmp_le C (pc := 11) 25 (by decide) dX6_refuseOddValue_11 hf (fun _ hf => ?_) (fun _ hf => ?_)
    · exact X_rv C (pc := 25) hr hk ⟨Nat.le_of_ble_eq_true rfl, Nat.le_of_ble_eq_true rfl⟩ dX6_refuseOddValue_25 hf
    · exact X_thrW C (pc := 14) hX hl9 hk hout kt_X6_216_220 (List.mem_of_getElem? (i := 2) rfl) dX6_refuseOddValue_14 dX6_refuseOddValue_17 dX6_refuseOddValue_18 dX6_refuseOddValue_21 dX6_refuseOddValue_24 (Nat.le_of_ble_eq_true rfl) (Nat.le_of_ble_eq_true rfl) ⟨Nat.le_of_ble_eq_true rfl, Nat.le_of_ble_eq_true rfl⟩ ⟨Nat.le_of_ble_eq_true rfl, Nat.le_of_ble_eq_true rfl⟩ hf
set_option maxRecDepth 100000 in
theorem m_X6_add (l : Launch) (hl9 : l.stackTraces = false) (B : Nat) (D : va_G) (Y : Nat → ClassId) (o : Ou) {M : Mem} {x1 : Int32} {x2 : Int32} {r : (String ⊕ Int32) × Mem}  (hf : f_X6_add M x1 x2 = some r) : XW l yX6_add cX6_add 4 (some .int) rm_X6_add 3 18 B D Y o [.ref (B + 0), .int x1, .int x2] M tvI r := by
  refine ofAtX (L0 := [(0, .ref (B + 0)), (1, .int x1), (2, .int x2)]) (by decide +kernel) (Nat.le_of_ble_eq_true rfl) rfl (fun p e s m args below meth c C hX hr hk hout => ?_)
  dsimp only [f_X6_add] at hf
  refine A_aload_n C (pc := 0) 0 rfl dX6_add_0 ?_
  refine A_iload_n C (pc := 1) 1 rfl dX6_add_1 ?_
  obtain ⟨z2, h2, hf⟩ := bd_i hf
  refine X_callV C (pc := 2) hX hk hout (A := [.int x1]) (rest := []) kl_X6_48 ky_X6_orderAt kv_X6_orderAt (m_X6_orderAt l hl9 B D Y o  h2) (by decide) rfl rfl rfl rfl (Nat.le_of_ble_eq_true rfl) ⟨rfl, rfl, Nat.le_of_ble_eq_true rfl, Nat.le_of_ble_eq_true rfl⟩ ⟨Nat.le_of_ble_eq_true rfl, Nat.le_of_ble_eq_true rfl⟩ ⟨Nat.le_of_ble_eq_true rfl, Nat.le_of_ble_eq_true rfl⟩ dX6_add_2 hf (fun v2 _ hf => ?_)
  obtain ⟨k2, hf⟩ := chk_i hf
  refine A_astore_n C (pc := 5) [(2, .int x2), (3, .ref (B + v2))] rfl (by decide) [3, 0] rfl dX6_add_5 ?_
  refine A_iload_n C (pc := 6) 0 rfl dX6_add_6 ?_
  obtain ⟨z7, h7, hf⟩ := bd_i hf
  refine X_callS C (pc := 7) hX hk hout (A := [.int x2]) (rest := []) kl_X6_70 ky_X6_refuseOddValue ks_X6_refuseOddValue (m_X6_refuseOddValue l hl9 B D Y o  h7) rfl rfl (Nat.le_of_ble_eq_true rfl) ⟨rfl, rfl, Nat.le_of_ble_eq_true rfl, Nat.le_of_ble_eq_true rfl⟩ ⟨Nat.le_of_ble_eq_true rfl, Nat.le_of_ble_eq_true rfl⟩ ⟨Nat.le_of_ble_eq_true rfl, Nat.le_of_ble_eq_true rfl⟩ dX6_add_7 hf (fun v7 _ hf => ?_)
  refine A_aload_n C (pc := 10) 1 rfl dX6_add_10 ?_
  refine A_g3_0 C (pc := 11) ((of_decide_eq_true k2)) kf_X6_56 dX6_add_11 ?_
  refine A_bipush C (pc := 14) bc_9 dX6_add_14 ?_
  refine A_icmp_lt C (pc := 16) 29 (by decide) dX6_add_16 hf (fun _ hf => ?_) (fun _ hf => ?_)
  · refine A_aload_n C (pc := 29) 1 rfl dX6_add_29 ?_
    refine A_iload_n C (pc := 30) 0 rfl dX6_add_30 ?_
    obtain ⟨z31, h31, hf⟩ := bd_i hf
    refine A_callV1 C (pc := 31) (A := [.int x2]) (rest := []) k_X6_80 ky_X3_append kv_X3_append (m_X3_append l B D Y o ((of_decide_eq_true k2)) h31) (kO ((of_decide_eq_true k2))).1 (ent2 ((of_decide_eq_true k2))) rfl rfl rfl (Nat.le_of_ble_eq_true rfl) ⟨rfl, rfl, Nat.le_of_ble_eq_true rfl, Nat.le_of_ble_eq_true rfl⟩ ⟨Nat.le_of_ble_eq_true rfl, Nat.le_of_ble_eq_true rfl⟩ dX6_add_31 ?_
    exact X_ri C (pc := 34) hr hk rfl ⟨Nat.le_of_ble_eq_true rfl, Nat.le_of_ble_eq_true rfl⟩ dX6_add_34 hf
  · exact X_thr C (pc := 19) hX hl9 hk hout kt_X6_73_77 (List.mem_of_getElem? (i := 3) rfl) dX6_add_19 dX6_add_22 dX6_add_23 dX6_add_25 dX6_add_28 (Nat.le_of_ble_eq_true rfl) (Nat.le_of_ble_eq_true rfl) ⟨Nat.le_of_ble_eq_true rfl, Nat.le_of_ble_eq_true rfl⟩ ⟨Nat.le_of_ble_eq_true rfl, Nat.le_of_ble_eq_true rfl⟩ hf
set_option maxRecDepth 100000 in
theorem m_X6_value (l : Launch) (hl9 : l.stackTraces = false) (B : Nat) (D : va_G) (Y : Nat → ClassId) (o : Ou) {M : Mem} {x1 : Int32} {x2 : Int32} {r : (String ⊕ Int32) × Mem}  (hf : f_X6_value M x1 x2 = some r) : XW l yX6_value cX6_value 3 (some .int) rm_X6_value 2 12 B D Y o [.ref (B + 0), .int x1, .int x2] M tvI r := by
  refine ofAtX (L0 := [(0, .ref (B + 0)), (1, .int x1), (2, .int x2)]) (by decide +kernel) (Nat.le_of_ble_eq_true rfl) rfl (fun p e s m args below meth c C hX hr hk hout => ?_)
  dsimp only [f_X6_value] at hf
  refine A_aload_n C (pc := 0) 0 rfl dX6_value_0 ?_
  refine A_iload_n C (pc := 1) 1 rfl dX6_value_1 ?_
  refine A_iload_n C (pc := 2) 2 rfl dX6_value_2 ?_
  obtain ⟨z3, h3, hf⟩ := bd_i hf
  refine X_callV C (pc := 3) hX hk hout (A := [.int x1, .int x2]) (rest := []) kl_X6_84 ky_X6_orderWith kv_X6_orderWith (m_X6_orderWith l hl9 B D Y o  h3) (by decide) rfl rfl rfl rfl (Nat.le_of_ble_eq_true rfl) ⟨rfl, rfl, Nat.le_of_ble_eq_true rfl, Nat.le_of_ble_eq_true rfl⟩ ⟨Nat.le_of_ble_eq_true rfl, Nat.le_of_ble_eq_true rfl⟩ ⟨Nat.le_of_ble_eq_true rfl, Nat.le_of_ble_eq_true rfl⟩ dX6_value_3 hf (fun v3 _ hf => ?_)
  obtain ⟨k3, hf⟩ := chk_i hf
  refine A_g3_2 C (pc := 6) ((of_decide_eq_true k3)) kf_X6_88 dX6_value_6 ?_
  refine A_iload_n C (pc := 9) 2 rfl dX6_value_9 ?_
  obtain ⟨c10, hf⟩ := chk_i hf
  refine A_iald C (pc := 10) (iO2 (of_decide_eq_true k3)) c10 dX6_value_10 ?_
  exact X_ri C (pc := 11) hr hk rfl ⟨Nat.le_of_ble_eq_true rfl, Nat.le_of_ble_eq_true rfl⟩ dX6_value_11 hf
set_option maxRecDepth 100000 in
theorem m_X6_orderWithBoth (l : Launch) (hl9 : l.stackTraces = false) (B : Nat) (D : va_G) (Y : Nat → ClassId) (o : Ou) {M : Mem} {x1 : Int32} {x2 : Int32} {x3 : Int32} {r : (String ⊕ Nat) × Mem}  (hf : f_X6_orderWithBoth M x1 x2 x3 = some r) : XW l yX6_orderWithBoth cX6_orderWithBoth 5 (some (.object "Belowhouse$Order")) rm_X6_orderWithBoth 3 18 B D Y o [.ref (B + 0), .int x1, .int x2, .int x3] M (tvR B) r := by
  refine ofAtX (L0 := [(0, .ref (B + 0)), (1, .int x1), (2, .int x2), (3, .int x3)]) (by decide +kernel) (Nat.le_of_ble_eq_true rfl) rfl (fun p e s m args below meth c C hX hr hk hout => ?_)
  dsimp only [f_X6_orderWithBoth] at hf
  refine A_aload_n C (pc := 0) 0 rfl dX6_orderWithBoth_0 ?_
  refine A_iload_n C (pc := 1) 1 rfl dX6_orderWithBoth_1 ?_
  refine A_iload_n C (pc := 2) 2 rfl dX6_orderWithBoth_2 ?_
  obtain ⟨z3, h3, hf⟩ := bd_i hf
  refine X_callV C (pc := 3) hX hk hout (A := [.int x1, .int x2]) (rest := []) kl_X6_84 ky_X6_orderWith kv_X6_orderWith (m_X6_orderWith l hl9 B D Y o  h3) (by decide) rfl rfl rfl rfl (Nat.le_of_ble_eq_true rfl) ⟨rfl, rfl, Nat.le_of_ble_eq_true rfl, Nat.le_of_ble_eq_true rfl⟩ ⟨Nat.le_of_ble_eq_true rfl, Nat.le_of_ble_eq_true rfl⟩ ⟨Nat.le_of_ble_eq_true rfl, Nat.le_of_ble_eq_true rfl⟩ dX6_orderWithBoth_3 hf (fun v3 _ hf => ?_)
  obtain ⟨k3, hf⟩ := chk_i hf
  refine A_astore C (pc := 6) [(3, .int x3), (4, .ref (B + v3))] (by decide) [4, 0] rfl dX6_orderWithBoth_6 ?_
  refine A_aload C (pc := 8) 1 rfl dX6_orderWithBoth_8 ?_
  refine A_iload_n C (pc := 10) 0 rfl dX6_orderWithBoth_10 ?_
  obtain ⟨z11, h11, hf⟩ := bd_i hf
  refine A_callV1 C (pc := 11) (A := [.int x3]) (rest := []) k_X6_281 ky_X3_hasThing kv_X3_hasThing (m_X3_hasThing l B D Y o ((of_decide_eq_true k3)) h11) (kO ((of_decide_eq_true k3))).1 (ent2 ((of_decide_eq_true k3))) rfl rfl rfl (Nat.le_of_ble_eq_true rfl) ⟨rfl, rfl, Nat.le_of_ble_eq_true rfl, Nat.le_of_ble_eq_true rfl⟩ ⟨Nat.le_of_ble_eq_true rfl, Nat.le_of_ble_eq_true rfl⟩ dX6_orderWithBoth_11 ?_
  refine A_if_ne C (pc := 14) 28 (by decide) dX6_orderWithBoth_14 hf (fun _ hf => ?_) (fun _ hf => ?_)
  · refine A_aload C (pc := 28) 1 rfl dX6_orderWithBoth_28 ?_
    exact X_ra C (pc := 30) hr (Or.inl ⟨_, rfl⟩) hk ⟨Nat.le_of_ble_eq_true rfl, Nat.le_of_ble_eq_true rfl⟩ dX6_orderWithBoth_30 hf
  · exact X_thrW C (pc := 17) hX hl9 hk hout kt_X6_199_203 (List.mem_of_getElem? (i := 4) rfl) dX6_orderWithBoth_17 dX6_orderWithBoth_20 dX6_orderWithBoth_21 dX6_orderWithBoth_24 dX6_orderWithBoth_27 (Nat.le_of_ble_eq_true rfl) (Nat.le_of_ble_eq_true rfl) ⟨Nat.le_of_ble_eq_true rfl, Nat.le_of_ble_eq_true rfl⟩ ⟨Nat.le_of_ble_eq_true rfl, Nat.le_of_ble_eq_true rfl⟩ hf
set_option maxRecDepth 100000 in
theorem m_X6_loose (l : Launch) (hl9 : l.stackTraces = false) (B : Nat) (D : va_G) (Y : Nat → ClassId) (o : Ou) {M : Mem} {x1 : Int32} {x2 : Int32} {x3 : Int32} {r : (String ⊕ Int32) × Mem}  (hf : f_X6_loose M x1 x2 x3 = some r) : XW l yX6_loose cX6_loose 5 (some .int) rm_X6_loose 3 18 B D Y o [.ref (B + 0), .int x1, .int x2, .int x3] M tvI r := by
  refine ofAtX (L0 := [(0, .ref (B + 0)), (1, .int x1), (2, .int x2), (3, .int x3)]) (by decide +kernel) (Nat.le_of_ble_eq_true rfl) rfl (fun p e s m args below meth c C hX hr hk hout => ?_)
  dsimp only [f_X6_loose] at hf
  refine A_aload_n C (pc := 0) 0 rfl dX6_loose_0 ?_
  refine A_iload_n C (pc := 1) 1 rfl dX6_loose_1 ?_
  refine A_iload_n C (pc := 2) 2 rfl dX6_loose_2 ?_
  refine A_iload_n C (pc := 3) 3 rfl dX6_loose_3 ?_
  obtain ⟨z4, h4, hf⟩ := bd_i hf
  refine X_callV C (pc := 4) hX hk hout (A := [.int x1, .int x2, .int x3]) (rest := []) kl_X6_101 ky_X6_orderWithBoth kv_X6_orderWithBoth (m_X6_orderWithBoth l hl9 B D Y o  h4) (by decide) rfl rfl rfl rfl (Nat.le_of_ble_eq_true rfl) ⟨rfl, rfl, Nat.le_of_ble_eq_true rfl, Nat.le_of_ble_eq_true rfl⟩ ⟨Nat.le_of_ble_eq_true rfl, Nat.le_of_ble_eq_true rfl⟩ ⟨Nat.le_of_ble_eq_true rfl, Nat.le_of_ble_eq_true rfl⟩ dX6_loose_4 hf (fun v4 _ hf => ?_)
  obtain ⟨k4, hf⟩ := chk_i hf
  refine A_astore C (pc := 7) [(2, .int x2), (3, .int x3), (4, .ref (B + v4))] (by decide) [3, 4, 0] rfl dX6_loose_7 ?_
  refine A_aload C (pc := 9) 2 rfl dX6_loose_9 ?_
  refine A_iload_n C (pc := 11) 0 rfl dX6_loose_11 ?_
  refine A_iload_n C (pc := 12) 1 rfl dX6_loose_12 ?_
  obtain ⟨z13, h13, hf⟩ := bd_i hf
  refine A_callV1 C (pc := 13) (A := [.int x2, .int x3]) (rest := []) k_X6_109 ky_X3_isNextBelow kv_X3_isNextBelow (m_X3_isNextBelow l B D Y o ((of_decide_eq_true k4)) h13) (kO ((of_decide_eq_true k4))).1 (ent2 ((of_decide_eq_true k4))) rfl rfl rfl (Nat.le_of_ble_eq_true rfl) ⟨rfl, rfl, Nat.le_of_ble_eq_true rfl, Nat.le_of_ble_eq_true rfl⟩ ⟨Nat.le_of_ble_eq_true rfl, Nat.le_of_ble_eq_true rfl⟩ dX6_loose_13 ?_
  refine A_if_ne C (pc := 16) 22 (by decide) dX6_loose_16 hf (fun _ hf => ?_) (fun _ hf => ?_)
  · refine A_aload C (pc := 22) 2 rfl dX6_loose_22 ?_
    refine A_iload_n C (pc := 24) 0 rfl dX6_loose_24 ?_
    refine A_iload_n C (pc := 25) 1 rfl dX6_loose_25 ?_
    obtain ⟨z26, h26, hf⟩ := bd_i hf
    refine A_callV0 C (pc := 26) (A := [.int x2, .int x3]) (rest := []) k_X6_113 ky_X3_cut kv_X3_cut (m_X3_cut l B D Y o ((of_decide_eq_true k4)) h26) (kO ((of_decide_eq_true k4))).1 (ent2 ((of_decide_eq_true k4))) rfl rfl rfl (Nat.le_of_ble_eq_true rfl) ⟨rfl, rfl, Nat.le_of_ble_eq_true rfl, Nat.le_of_ble_eq_true rfl⟩ ⟨Nat.le_of_ble_eq_true rfl, Nat.le_of_ble_eq_true rfl⟩ dX6_loose_26 ?_
    refine A_aload C (pc := 29) 2 rfl dX6_loose_29 ?_
    obtain ⟨z31, h31, hf⟩ := bd_i hf
    refine A_callV1 C (pc := 31) (A := []) (rest := []) k_X6_66 ky_X3_pairCount kv_X3_pairCount (m_X3_pairCount l B D Y o ((of_decide_eq_true k4)) h31) (kO ((of_decide_eq_true k4))).1 (ent2 ((of_decide_eq_true k4))) rfl rfl rfl (Nat.le_of_ble_eq_true rfl) ⟨rfl, rfl, Nat.le_of_ble_eq_true rfl, Nat.le_of_ble_eq_true rfl⟩ ⟨Nat.le_of_ble_eq_true rfl, Nat.le_of_ble_eq_true rfl⟩ dX6_loose_31 ?_
    exact X_ri C (pc := 34) hr hk rfl ⟨Nat.le_of_ble_eq_true rfl, Nat.le_of_ble_eq_true rfl⟩ dX6_loose_34 hf
  · refine A_bipush C (pc := 19) bc_m9 dX6_loose_19 ?_
    exact X_ri C (pc := 21) hr hk rfl ⟨Nat.le_of_ble_eq_true rfl, Nat.le_of_ble_eq_true rfl⟩ dX6_loose_21 hf
set_option maxRecDepth 100000 in
theorem m_X6_sum (l : Launch) (hl9 : l.stackTraces = false) (B : Nat) (D : va_G) (Y : Nat → ClassId) (o : Ou) {M : Mem} {x1 : Int32} {x2 : Int32} {r : (String ⊕ Int32) × Mem}  (hf : f_X6_sum M x1 x2 = some r) : XW l yX6_sum cX6_sum 3 (some .int) rm_X6_sum 2 12 B D Y o [.ref (B + 0), .int x1, .int x2] M tvI r := by
  refine ofAtX (L0 := [(0, .ref (B + 0)), (1, .int x1), (2, .int x2)]) (by decide +kernel) (Nat.le_of_ble_eq_true rfl) rfl (fun p e s m args below meth c C hX hr hk hout => ?_)
  dsimp only [f_X6_sum] at hf
  refine A_aload_n C (pc := 0) 0 rfl dX6_sum_0 ?_
  refine A_iload_n C (pc := 1) 1 rfl dX6_sum_1 ?_
  refine A_iload_n C (pc := 2) 2 rfl dX6_sum_2 ?_
  obtain ⟨z3, h3, hf⟩ := bd_i hf
  refine X_callV C (pc := 3) hX hk hout (A := [.int x1, .int x2]) (rest := []) kl_X6_84 ky_X6_orderWith kv_X6_orderWith (m_X6_orderWith l hl9 B D Y o  h3) (by decide) rfl rfl rfl rfl (Nat.le_of_ble_eq_true rfl) ⟨rfl, rfl, Nat.le_of_ble_eq_true rfl, Nat.le_of_ble_eq_true rfl⟩ ⟨Nat.le_of_ble_eq_true rfl, Nat.le_of_ble_eq_true rfl⟩ ⟨Nat.le_of_ble_eq_true rfl, Nat.le_of_ble_eq_true rfl⟩ dX6_sum_3 hf (fun v3 _ hf => ?_)
  obtain ⟨k3, hf⟩ := chk_i hf
  refine A_iload_n C (pc := 6) 2 rfl dX6_sum_6 ?_
  obtain ⟨z7, h7, hf⟩ := bd_i hf
  refine A_callV1 C (pc := 7) (A := [.int x2]) (rest := []) k_X6_255 ky_X3_sumUpTo kv_X3_sumUpTo (m_X3_sumUpTo l B D Y o ((of_decide_eq_true k3)) h7) (kO ((of_decide_eq_true k3))).1 (ent2 ((of_decide_eq_true k3))) rfl rfl rfl (Nat.le_of_ble_eq_true rfl) ⟨rfl, rfl, Nat.le_of_ble_eq_true rfl, Nat.le_of_ble_eq_true rfl⟩ ⟨Nat.le_of_ble_eq_true rfl, Nat.le_of_ble_eq_true rfl⟩ dX6_sum_7 ?_
  exact X_ri C (pc := 10) hr hk rfl ⟨Nat.le_of_ble_eq_true rfl, Nat.le_of_ble_eq_true rfl⟩ dX6_sum_10 hf
set_option maxRecDepth 100000 in
theorem m_X6_areSound (l : Launch) (hl9 : l.stackTraces = false) (B : Nat) (D : va_G) (Y : Nat → ClassId) (o : Ou) {M : Mem} {x1 : Int32} {x2 : Int32} {r : (String ⊕ Int32) × Mem}  (hf : f_X6_areSound M x1 x2 = some r) : XW l yX6_areSound cX6_areSound 5 (some .boolean) rm_X6_areSound 2 12 B D Y o [.ref (B + 0), .int x1, .int x2] M tvI r := by
  refine ofAtX (L0 := [(0, .ref (B + 0)), (1, .int x1), (2, .int x2)]) (by decide +kernel) (Nat.le_of_ble_eq_true rfl) rfl (fun p e s m args below meth c C hX hr hk hout => ?_)
  dsimp only [f_X6_areSound] at hf
  refine A_aload_n C (pc := 0) 0 rfl dX6_areSound_0 ?_
  refine A_iload_n C (pc := 1) 1 rfl dX6_areSound_1 ?_
  obtain ⟨z2, h2, hf⟩ := bd_i hf
  refine X_callV C (pc := 2) hX hk hout (A := [.int x1]) (rest := []) kl_X6_48 ky_X6_orderAt kv_X6_orderAt (m_X6_orderAt l hl9 B D Y o  h2) (by decide) rfl rfl rfl rfl (Nat.le_of_ble_eq_true rfl) ⟨rfl, rfl, Nat.le_of_ble_eq_true rfl, Nat.le_of_ble_eq_true rfl⟩ ⟨Nat.le_of_ble_eq_true rfl, Nat.le_of_ble_eq_true rfl⟩ ⟨Nat.le_of_ble_eq_true rfl, Nat.le_of_ble_eq_true rfl⟩ dX6_areSound_2 hf (fun v2 _ hf => ?_)
  obtain ⟨k2, hf⟩ := chk_i hf
  refine A_astore_n C (pc := 5) [(0, .ref (B + 0)), (2, .int x2), (3, .ref (B + v2))] rfl (by decide) [1, 3, 0] rfl dX6_areSound_5 ?_
  refine A_aload_n C (pc := 6) 0 rfl dX6_areSound_6 ?_
  refine A_iload_n C (pc := 7) 1 rfl dX6_areSound_7 ?_
  obtain ⟨z8, h8, hf⟩ := bd_i hf
  refine X_callV C (pc := 8) hX hk hout (A := [.int x2]) (rest := []) kl_X6_48 ky_X6_orderAt kv_X6_orderAt (m_X6_orderAt l hl9 B D Y o  h8) (by decide) rfl rfl rfl rfl (Nat.le_of_ble_eq_true rfl) ⟨rfl, rfl, Nat.le_of_ble_eq_true rfl, Nat.le_of_ble_eq_true rfl⟩ ⟨Nat.le_of_ble_eq_true rfl, Nat.le_of_ble_eq_true rfl⟩ ⟨Nat.le_of_ble_eq_true rfl, Nat.le_of_ble_eq_true rfl⟩ dX6_areSound_8 hf (fun v8 _ hf => ?_)
  obtain ⟨k8, hf⟩ := chk_i hf
  refine A_astore C (pc := 11) [(0, .ref (B + 0)), (3, .ref (B + v2)), (4, .ref (B + v8))] (by decide) [1, 3, 0] rfl dX6_areSound_11 ?_
  refine A_aload_n C (pc := 13) 1 rfl dX6_areSound_13 ?_
  refine A_g3_0 C (pc := 14) ((of_decide_eq_true k2)) kf_X6_56 dX6_areSound_14 ?_
  refine A_aload C (pc := 17) 2 rfl dX6_areSound_17 ?_
  refine A_g3_0 C (pc := 19) ((of_decide_eq_true k8)) kf_X6_56 dX6_areSound_19 ?_
  refine A_iadd C (pc := 22) dX6_areSound_22 ?_
  refine A_bipush C (pc := 23) bc_9 dX6_areSound_23 ?_
  refine A_icmp_gt C (pc := 25) 41 (by decide) dX6_areSound_25 hf (fun _ hf => ?_) (fun _ hf => ?_)
  · refine A_iconst C (pc := 41) ic_1 dX6_areSound_41 ?_
    refine A_goto C (pc := 42) 46 (by decide) dX6_areSound_42 ?_
    exact X_ri C (pc := 46) hr hk nz_1 ⟨Nat.le_of_ble_eq_true rfl, Nat.le_of_ble_eq_true rfl⟩ dX6_areSound_46 hf
  · refine A_aload_n C (pc := 28) 0 rfl dX6_areSound_28 ?_
    refine A_g6_5 C (pc := 29) kf_X6_44 dX6_areSound_29 ?_
    refine A_aload_n C (pc := 32) 1 rfl dX6_areSound_32 ?_
    refine A_aload C (pc := 33) 2 rfl dX6_areSound_33 ?_
    obtain ⟨z35, h35, hf⟩ := bd_i hf
    refine A_callV1 C (pc := 35) (A := [.ref (B + v2), .ref (B + v8)]) (rest := []) k_X6_267 ky_X5_holdsForBoth kv_X5_holdsForBoth (m_X5_holdsForBoth l B D Y o ((of_decide_eq_true k2)) ((of_decide_eq_true k8)) h35) (by decide) rfl rfl rfl rfl (Nat.le_of_ble_eq_true rfl) ⟨rfl, rfl, Nat.le_of_ble_eq_true rfl, Nat.le_of_ble_eq_true rfl⟩ ⟨Nat.le_of_ble_eq_true rfl, Nat.le_of_ble_eq_true rfl⟩ dX6_areSound_35 ?_
    refine A_if_eq C (pc := 38) 45 (by decide) dX6_areSound_38 hf (fun _ hf => ?_) (fun _ hf => ?_)
    · refine A_iconst C (pc := 45) ic_0 dX6_areSound_45 ?_
      exact X_ri C (pc := 46) hr hk nz_0 ⟨Nat.le_of_ble_eq_true rfl, Nat.le_of_ble_eq_true rfl⟩ dX6_areSound_46 hf
    · refine A_iconst C (pc := 41) ic_1 dX6_areSound_41 ?_
      refine A_goto C (pc := 42) 46 (by decide) dX6_areSound_42 ?_
      exact X_ri C (pc := 46) hr hk nz_1 ⟨Nat.le_of_ble_eq_true rfl, Nat.le_of_ble_eq_true rfl⟩ dX6_areSound_46 hf
set_option maxRecDepth 100000 in
theorem m_X6_fewestChains (l : Launch) (hl9 : l.stackTraces = false) (B : Nat) (D : va_G) (Y : Nat → ClassId) (o : Ou) {M : Mem} {x1 : Int32} {r : (String ⊕ Int32) × Mem}  (hf : f_X6_fewestChains M x1 = some r) : XW l yX6_fewestChains cX6_fewestChains 2 (some .int) rm_X6_fewestChains 1 6 B D Y o [.ref (B + 0), .int x1] M tvI r := by
  refine ofAtX (L0 := [(0, .ref (B + 0)), (1, .int x1)]) (by decide +kernel) (Nat.le_of_ble_eq_true rfl) rfl (fun p e s m args below meth c C hX hr hk hout => ?_)
  dsimp only [f_X6_fewestChains] at hf
  refine A_aload_n C (pc := 0) 0 rfl dX6_fewestChains_0 ?_
  refine A_g6_2 C (pc := 1) kf_X6_23 dX6_fewestChains_1 ?_
  refine A_aload_n C (pc := 4) 0 rfl dX6_fewestChains_4 ?_
  refine A_iload_n C (pc := 5) 1 rfl dX6_fewestChains_5 ?_
  obtain ⟨z6, h6, hf⟩ := bd_i hf
  refine X_callV C (pc := 6) hX hk hout (A := [.int x1]) (rest := [.ref (B + 17)]) kl_X6_48 ky_X6_orderAt kv_X6_orderAt (m_X6_orderAt l hl9 B D Y o  h6) (by decide) rfl rfl rfl rfl (Nat.le_of_ble_eq_true rfl) ⟨rfl, rfl, Nat.le_of_ble_eq_true rfl, Nat.le_of_ble_eq_true rfl⟩ ⟨Nat.le_of_ble_eq_true rfl, Nat.le_of_ble_eq_true rfl⟩ ⟨Nat.le_of_ble_eq_true rfl, Nat.le_of_ble_eq_true rfl⟩ dX6_fewestChains_6 hf (fun v6 _ hf => ?_)
  obtain ⟨k6, hf⟩ := chk_i hf
  obtain ⟨z9, h9, hf⟩ := bd_i hf
  refine A_callV1 C (pc := 9) (A := [.ref (B + v6)]) (rest := []) k_X6_180 ky_X0_chainCover kv_X0_chainCover (m_X0_chainCover l B D Y o ((show kd 17 = 3 from rfl)) ((of_decide_eq_true k6)) h9) (kC ((show kd 17 = 3 from rfl))).1 (ent3 ((show kd 17 = 3 from rfl))) rfl rfl rfl (Nat.le_of_ble_eq_true rfl) ⟨rfl, rfl, Nat.le_of_ble_eq_true rfl, Nat.le_of_ble_eq_true rfl⟩ ⟨Nat.le_of_ble_eq_true rfl, Nat.le_of_ble_eq_true rfl⟩ dX6_fewestChains_9 ?_
  exact X_ri C (pc := 12) hr hk rfl ⟨Nat.le_of_ble_eq_true rfl, Nat.le_of_ble_eq_true rfl⟩ dX6_fewestChains_12 hf
set_option maxRecDepth 100000 in
theorem m_X6_longest (l : Launch) (hl9 : l.stackTraces = false) (B : Nat) (D : va_G) (Y : Nat → ClassId) (o : Ou) {M : Mem} {x1 : Int32} {r : (String ⊕ Int32) × Mem}  (hf : f_X6_longest M x1 = some r) : XW l yX6_longest cX6_longest 3 (some .int) rm_X6_longest 1 6 B D Y o [.ref (B + 0), .int x1] M tvI r := by
  refine ofAtX (L0 := [(0, .ref (B + 0)), (1, .int x1)]) (by decide +kernel) (Nat.le_of_ble_eq_true rfl) rfl (fun p e s m args below meth c C hX hr hk hout => ?_)
  dsimp only [f_X6_longest] at hf
  refine A_aload_n C (pc := 0) 0 rfl dX6_longest_0 ?_
  refine A_iload_n C (pc := 1) 1 rfl dX6_longest_1 ?_
  obtain ⟨z2, h2, hf⟩ := bd_i hf
  refine X_callV C (pc := 2) hX hk hout (A := [.int x1]) (rest := []) kl_X6_48 ky_X6_orderAt kv_X6_orderAt (m_X6_orderAt l hl9 B D Y o  h2) (by decide) rfl rfl rfl rfl (Nat.le_of_ble_eq_true rfl) ⟨rfl, rfl, Nat.le_of_ble_eq_true rfl, Nat.le_of_ble_eq_true rfl⟩ ⟨Nat.le_of_ble_eq_true rfl, Nat.le_of_ble_eq_true rfl⟩ ⟨Nat.le_of_ble_eq_true rfl, Nat.le_of_ble_eq_true rfl⟩ dX6_longest_2 hf (fun v2 _ hf => ?_)
  obtain ⟨k2, hf⟩ := chk_i hf
  refine A_astore_n C (pc := 5) [(2, .ref (B + v2))] rfl (by decide) [0] rfl dX6_longest_5 ?_
  refine A_aload_n C (pc := 6) 0 rfl dX6_longest_6 ?_
  refine A_aload_n C (pc := 7) 0 rfl dX6_longest_7 ?_
  obtain ⟨z8, h8, hf⟩ := bd_i hf
  refine A_callV1 C (pc := 8) (A := []) (rest := [.ref (B + v2)]) k_X6_92 ky_X3_all kv_X3_all (m_X3_all l B D Y o ((of_decide_eq_true k2)) h8) (kO ((of_decide_eq_true k2))).1 (ent2 ((of_decide_eq_true k2))) rfl rfl rfl (Nat.le_of_ble_eq_true rfl) ⟨rfl, rfl, Nat.le_of_ble_eq_true rfl, Nat.le_of_ble_eq_true rfl⟩ ⟨Nat.le_of_ble_eq_true rfl, Nat.le_of_ble_eq_true rfl⟩ dX6_longest_8 ?_
  obtain ⟨z11, h11, hf⟩ := bd_i hf
  refine A_callS1 C (pc := 11) (A := [.ref (B + v2), .int z8]) (rest := []) k_X6_172 ky_X0_longestWithin ks_X0_longestWithin (m_X0_longestWithin l B D Y o ((of_decide_eq_true k2)) h11) rfl rfl (Nat.le_of_ble_eq_true rfl) ⟨rfl, rfl, Nat.le_of_ble_eq_true rfl, Nat.le_of_ble_eq_true rfl⟩ ⟨Nat.le_of_ble_eq_true rfl, Nat.le_of_ble_eq_true rfl⟩ dX6_longest_11 ?_
  exact X_ri C (pc := 14) hr hk rfl ⟨Nat.le_of_ble_eq_true rfl, Nat.le_of_ble_eq_true rfl⟩ dX6_longest_14 hf
set_option maxRecDepth 100000 in
theorem m_X6_orderWithSet (l : Launch) (hl9 : l.stackTraces = false) (B : Nat) (D : va_G) (Y : Nat → ClassId) (o : Ou) {M : Mem} {x1 : Int32} {x2 : Int32} {r : (String ⊕ Nat) × Mem}  (hf : f_X6_orderWithSet M x1 x2 = some r) : XW l yX6_orderWithSet cX6_orderWithSet 4 (some (.object "Belowhouse$Order")) rm_X6_orderWithSet 2 12 B D Y o [.ref (B + 0), .int x1, .int x2] M (tvR B) r := by
  refine ofAtX (L0 := [(0, .ref (B + 0)), (1, .int x1), (2, .int x2)]) (by decide +kernel) (Nat.le_of_ble_eq_true rfl) rfl (fun p e s m args below meth c C hX hr hk hout => ?_)
  dsimp only [f_X6_orderWithSet] at hf
  refine A_aload_n C (pc := 0) 0 rfl dX6_orderWithSet_0 ?_
  refine A_iload_n C (pc := 1) 1 rfl dX6_orderWithSet_1 ?_
  obtain ⟨z2, h2, hf⟩ := bd_i hf
  refine X_callV C (pc := 2) hX hk hout (A := [.int x1]) (rest := []) kl_X6_48 ky_X6_orderAt kv_X6_orderAt (m_X6_orderAt l hl9 B D Y o  h2) (by decide) rfl rfl rfl rfl (Nat.le_of_ble_eq_true rfl) ⟨rfl, rfl, Nat.le_of_ble_eq_true rfl, Nat.le_of_ble_eq_true rfl⟩ ⟨Nat.le_of_ble_eq_true rfl, Nat.le_of_ble_eq_true rfl⟩ ⟨Nat.le_of_ble_eq_true rfl, Nat.le_of_ble_eq_true rfl⟩ dX6_orderWithSet_2 hf (fun v2 _ hf => ?_)
  obtain ⟨k2, hf⟩ := chk_i hf
  refine A_astore_n C (pc := 5) [(2, .int x2), (3, .ref (B + v2))] rfl (by decide) [3, 0] rfl dX6_orderWithSet_5 ?_
  refine A_iload_n C (pc := 6) 0 rfl dX6_orderWithSet_6 ?_
  refine A_if_lt C (pc := 7) 18 (by decide) dX6_orderWithSet_7 hf (fun _ hf => ?_) (fun _ hf => ?_)
  · exact X_thrW C (pc := 18) hX hl9 hk hout kt_X6_216_220 (List.mem_of_getElem? (i := 5) rfl) dX6_orderWithSet_18 dX6_orderWithSet_21 dX6_orderWithSet_22 dX6_orderWithSet_25 dX6_orderWithSet_28 (Nat.le_of_ble_eq_true rfl) (Nat.le_of_ble_eq_true rfl) ⟨Nat.le_of_ble_eq_true rfl, Nat.le_of_ble_eq_true rfl⟩ ⟨Nat.le_of_ble_eq_true rfl, Nat.le_of_ble_eq_true rfl⟩ hf
  · refine A_iload_n C (pc := 10) 0 rfl dX6_orderWithSet_10 ?_
    refine A_aload_n C (pc := 11) 1 rfl dX6_orderWithSet_11 ?_
    obtain ⟨z12, h12, hf⟩ := bd_i hf
    refine A_callV1 C (pc := 12) (A := []) (rest := [.int x2]) k_X6_286 ky_X3_setLimit kv_X3_setLimit (m_X3_setLimit l B D Y o ((of_decide_eq_true k2)) h12) (kO ((of_decide_eq_true k2))).1 (ent2 ((of_decide_eq_true k2))) rfl rfl rfl (Nat.le_of_ble_eq_true rfl) ⟨rfl, rfl, Nat.le_of_ble_eq_true rfl, Nat.le_of_ble_eq_true rfl⟩ ⟨Nat.le_of_ble_eq_true rfl, Nat.le_of_ble_eq_true rfl⟩ dX6_orderWithSet_12 ?_
    refine A_icmp_lt C (pc := 15) 29 (by decide) dX6_orderWithSet_15 hf (fun _ hf => ?_) (fun _ hf => ?_)
    · refine A_aload_n C (pc := 29) 1 rfl dX6_orderWithSet_29 ?_
      exact X_ra C (pc := 30) hr (Or.inl ⟨_, rfl⟩) hk ⟨Nat.le_of_ble_eq_true rfl, Nat.le_of_ble_eq_true rfl⟩ dX6_orderWithSet_30 hf
    · exact X_thrW C (pc := 18) hX hl9 hk hout kt_X6_216_220 (List.mem_of_getElem? (i := 5) rfl) dX6_orderWithSet_18 dX6_orderWithSet_21 dX6_orderWithSet_22 dX6_orderWithSet_25 dX6_orderWithSet_28 (Nat.le_of_ble_eq_true rfl) (Nat.le_of_ble_eq_true rfl) ⟨Nat.le_of_ble_eq_true rfl, Nat.le_of_ble_eq_true rfl⟩ ⟨Nat.le_of_ble_eq_true rfl, Nat.le_of_ble_eq_true rfl⟩ hf
set_option maxRecDepth 100000 in
theorem m_X6_inner (l : Launch) (hl9 : l.stackTraces = false) (B : Nat) (D : va_G) (Y : Nat → ClassId) (o : Ou) {M : Mem} {x1 : Int32} {x2 : Int32} {r : (String ⊕ Int32) × Mem}  (hf : f_X6_inner M x1 x2 = some r) : XW l yX6_inner cX6_inner 3 (some .int) rm_X6_inner 2 12 B D Y o [.ref (B + 0), .int x1, .int x2] M tvI r := by
  refine ofAtX (L0 := [(0, .ref (B + 0)), (1, .int x1), (2, .int x2)]) (by decide +kernel) (Nat.le_of_ble_eq_true rfl) rfl (fun p e s m args below meth c C hX hr hk hout => ?_)
  dsimp only [f_X6_inner] at hf
  refine A_aload_n C (pc := 0) 0 rfl dX6_inner_0 ?_
  refine A_iload_n C (pc := 1) 1 rfl dX6_inner_1 ?_
  refine A_iload_n C (pc := 2) 2 rfl dX6_inner_2 ?_
  obtain ⟨z3, h3, hf⟩ := bd_i hf
  refine X_callV C (pc := 3) hX hk hout (A := [.int x1, .int x2]) (rest := []) kl_X6_98 ky_X6_orderWithSet kv_X6_orderWithSet (m_X6_orderWithSet l hl9 B D Y o  h3) (by decide) rfl rfl rfl rfl (Nat.le_of_ble_eq_true rfl) ⟨rfl, rfl, Nat.le_of_ble_eq_true rfl, Nat.le_of_ble_eq_true rfl⟩ ⟨Nat.le_of_ble_eq_true rfl, Nat.le_of_ble_eq_true rfl⟩ ⟨Nat.le_of_ble_eq_true rfl, Nat.le_of_ble_eq_true rfl⟩ dX6_inner_3 hf (fun v3 _ hf => ?_)
  obtain ⟨k3, hf⟩ := chk_i hf
  refine A_iload_n C (pc := 6) 2 rfl dX6_inner_6 ?_
  obtain ⟨z7, h7, hf⟩ := bd_i hf
  refine A_callV1 C (pc := 7) (A := [.int x2]) (rest := []) k_X6_224 ky_X3_pared kv_X3_pared (m_X3_pared l B D Y o ((of_decide_eq_true k3)) h7) (kO ((of_decide_eq_true k3))).1 (ent2 ((of_decide_eq_true k3))) rfl rfl rfl (Nat.le_of_ble_eq_true rfl) ⟨rfl, rfl, Nat.le_of_ble_eq_true rfl, Nat.le_of_ble_eq_true rfl⟩ ⟨Nat.le_of_ble_eq_true rfl, Nat.le_of_ble_eq_true rfl⟩ dX6_inner_7 ?_
  exact X_ri C (pc := 10) hr hk rfl ⟨Nat.le_of_ble_eq_true rfl, Nat.le_of_ble_eq_true rfl⟩ dX6_inner_10 hf
set_option maxRecDepth 100000 in
theorem m_X6_undone (l : Launch) (hl9 : l.stackTraces = false) (B : Nat) (D : va_G) (Y : Nat → ClassId) (o : Ou) {M : Mem} {x1 : Int32} {x2 : Int32} {r : (String ⊕ Int32) × Mem}  (hf : f_X6_undone M x1 x2 = some r) : XW l yX6_undone cX6_undone 3 (some .int) rm_X6_undone 2 12 B D Y o [.ref (B + 0), .int x1, .int x2] M tvI r := by
  refine ofAtX (L0 := [(0, .ref (B + 0)), (1, .int x1), (2, .int x2)]) (by decide +kernel) (Nat.le_of_ble_eq_true rfl) rfl (fun p e s m args below meth c C hX hr hk hout => ?_)
  dsimp only [f_X6_undone] at hf
  refine A_aload_n C (pc := 0) 0 rfl dX6_undone_0 ?_
  refine A_g6_4 C (pc := 1) kf_X6_37 dX6_undone_1 ?_
  refine A_aload_n C (pc := 4) 0 rfl dX6_undone_4 ?_
  refine A_iload_n C (pc := 5) 1 rfl dX6_undone_5 ?_
  refine A_iload_n C (pc := 6) 2 rfl dX6_undone_6 ?_
  obtain ⟨z7, h7, hf⟩ := bd_i hf
  refine X_callV C (pc := 7) hX hk hout (A := [.int x1, .int x2]) (rest := [.ref (B + 24)]) kl_X6_84 ky_X6_orderWith kv_X6_orderWith (m_X6_orderWith l hl9 B D Y o  h7) (by decide) rfl rfl rfl rfl (Nat.le_of_ble_eq_true rfl) ⟨rfl, rfl, Nat.le_of_ble_eq_true rfl, Nat.le_of_ble_eq_true rfl⟩ ⟨Nat.le_of_ble_eq_true rfl, Nat.le_of_ble_eq_true rfl⟩ ⟨Nat.le_of_ble_eq_true rfl, Nat.le_of_ble_eq_true rfl⟩ dX6_undone_7 hf (fun v7 _ hf => ?_)
  obtain ⟨k7, hf⟩ := chk_i hf
  refine A_iload_n C (pc := 10) 2 rfl dX6_undone_10 ?_
  obtain ⟨z11, h11, hf⟩ := bd_i hf
  refine A_callV1 C (pc := 11) (A := [.ref (B + v7), .int x2]) (rest := []) k_X6_261 ky_X2_undoSums kv_X2_undoSums (m_X2_undoSums l B D Y o ((show kd 24 = 5 from rfl)) ((of_decide_eq_true k7)) h11) (kN ((show kd 24 = 5 from rfl))).1 (ent5 ((show kd 24 = 5 from rfl))) rfl rfl rfl (Nat.le_of_ble_eq_true rfl) ⟨rfl, rfl, Nat.le_of_ble_eq_true rfl, Nat.le_of_ble_eq_true rfl⟩ ⟨Nat.le_of_ble_eq_true rfl, Nat.le_of_ble_eq_true rfl⟩ dX6_undone_11 ?_
  exact X_ri C (pc := 14) hr hk rfl ⟨Nat.le_of_ble_eq_true rfl, Nat.le_of_ble_eq_true rfl⟩ dX6_undone_14 hf
set_option maxRecDepth 100000 in
theorem m_X6_joinInto (l : Launch) (hl9 : l.stackTraces = false) (B : Nat) (D : va_G) (Y : Nat → ClassId) (o : Ou) {M : Mem} {x1 : Int32} {x2 : Int32} {x3 : Int32} {x4 : Int32} {r : (String ⊕ Nat) × Mem}  (hf : f_X6_joinInto M x1 x2 x3 x4 = some r) : XW l yX6_joinInto cX6_joinInto 8 (some (.object "Belowhouse$Order")) rm_X6_joinInto 4 24 B D Y o [.ref (B + 0), .int x1, .int x2, .int x3, .int x4] M (tvR B) r := by
  refine ofAtX (L0 := [(0, .ref (B + 0)), (1, .int x1), (2, .int x2), (3, .int x3), (4, .int x4)]) (by decide +kernel) (Nat.le_of_ble_eq_true rfl) rfl (fun p e s m args below meth c C hX hr hk hout => ?_)
  dsimp only [f_X6_joinInto] at hf
  refine A_aload_n C (pc := 0) 0 rfl dX6_joinInto_0 ?_
  refine A_iload_n C (pc := 1) 1 rfl dX6_joinInto_1 ?_
  obtain ⟨z2, h2, hf⟩ := bd_i hf
  refine X_callV C (pc := 2) hX hk hout (A := [.int x1]) (rest := []) kl_X6_48 ky_X6_orderAt kv_X6_orderAt (m_X6_orderAt l hl9 B D Y o  h2) (by decide) rfl rfl rfl rfl (Nat.le_of_ble_eq_true rfl) ⟨rfl, rfl, Nat.le_of_ble_eq_true rfl, Nat.le_of_ble_eq_true rfl⟩ ⟨Nat.le_of_ble_eq_true rfl, Nat.le_of_ble_eq_true rfl⟩ ⟨Nat.le_of_ble_eq_true rfl, Nat.le_of_ble_eq_true rfl⟩ dX6_joinInto_2 hf (fun v2 _ hf => ?_)
  obtain ⟨k2, hf⟩ := chk_i hf
  refine A_astore C (pc := 5) [(0, .ref (B + 0)), (2, .int x2), (3, .int x3), (4, .int x4), (5, .ref (B + v2))] (by decide) [1, 3, 4, 5, 0] rfl dX6_joinInto_5 ?_
  refine A_aload_n C (pc := 7) 0 rfl dX6_joinInto_7 ?_
  refine A_iload_n C (pc := 8) 1 rfl dX6_joinInto_8 ?_
  obtain ⟨z9, h9, hf⟩ := bd_i hf
  refine X_callV C (pc := 9) hX hk hout (A := [.int x2]) (rest := []) kl_X6_48 ky_X6_orderAt kv_X6_orderAt (m_X6_orderAt l hl9 B D Y o  h9) (by decide) rfl rfl rfl rfl (Nat.le_of_ble_eq_true rfl) ⟨rfl, rfl, Nat.le_of_ble_eq_true rfl, Nat.le_of_ble_eq_true rfl⟩ ⟨Nat.le_of_ble_eq_true rfl, Nat.le_of_ble_eq_true rfl⟩ ⟨Nat.le_of_ble_eq_true rfl, Nat.le_of_ble_eq_true rfl⟩ dX6_joinInto_9 hf (fun v9 _ hf => ?_)
  obtain ⟨k9, hf⟩ := chk_i hf
  refine A_astore C (pc := 12) [(0, .ref (B + 0)), (3, .int x3), (4, .int x4), (5, .ref (B + v2)), (6, .ref (B + v9))] (by decide) [1, 3, 4, 5, 0] rfl dX6_joinInto_12 ?_
  refine A_aload_n C (pc := 14) 0 rfl dX6_joinInto_14 ?_
  refine A_iload_n C (pc := 15) 1 rfl dX6_joinInto_15 ?_
  obtain ⟨z16, h16, hf⟩ := bd_i hf
  refine X_callV C (pc := 16) hX hk hout (A := [.int x3]) (rest := []) kl_X6_48 ky_X6_orderAt kv_X6_orderAt (m_X6_orderAt l hl9 B D Y o  h16) (by decide) rfl rfl rfl rfl (Nat.le_of_ble_eq_true rfl) ⟨rfl, rfl, Nat.le_of_ble_eq_true rfl, Nat.le_of_ble_eq_true rfl⟩ ⟨Nat.le_of_ble_eq_true rfl, Nat.le_of_ble_eq_true rfl⟩ ⟨Nat.le_of_ble_eq_true rfl, Nat.le_of_ble_eq_true rfl⟩ dX6_joinInto_16 hf (fun v16 _ hf => ?_)
  obtain ⟨k16, hf⟩ := chk_i hf
  refine A_astore C (pc := 19) [(0, .ref (B + 0)), (4, .int x4), (5, .ref (B + v2)), (6, .ref (B + v9)), (7, .ref (B + v16))] (by decide) [1, 3, 4, 5, 0] rfl dX6_joinInto_19 ?_
  refine A_aload C (pc := 21) 2 rfl dX6_joinInto_21 ?_
  refine A_g3_0 C (pc := 23) ((of_decide_eq_true k2)) kf_X6_56 dX6_joinInto_23 ?_
  refine A_aload C (pc := 26) 3 rfl dX6_joinInto_26 ?_
  refine A_g3_0 C (pc := 28) ((of_decide_eq_true k9)) kf_X6_56 dX6_joinInto_28 ?_
  refine A_iadd C (pc := 31) dX6_joinInto_31 ?_
  refine A_bipush C (pc := 32) bc_9 dX6_joinInto_32 ?_
  refine A_icmp_le C (pc := 34) 48 (by decide) dX6_joinInto_34 hf (fun _ hf => ?_) (fun _ hf => ?_)
  · refine A_aload_n C (pc := 48) 0 rfl dX6_joinInto_48 ?_
    refine A_g6_1 C (pc := 49) kf_X6_16 dX6_joinInto_49 ?_
    refine A_aload C (pc := 52) 2 rfl dX6_joinInto_52 ?_
    refine A_aload C (pc := 54) 3 rfl dX6_joinInto_54 ?_
    refine A_iload C (pc := 56) 1 rfl dX6_joinInto_56 ?_
    obtain ⟨z58, h58, hf⟩ := bd_i hf
    refine A_callV0 C (pc := 58) (A := [.ref (B + v2), .ref (B + v9), .int x4]) (rest := []) k_X6_302 ky_X3_becomeJoined kv_X3_becomeJoined (m_X3_becomeJoined l B D Y o ((show kd 14 = 2 from rfl)) ((of_decide_eq_true k2)) ((of_decide_eq_true k9)) h58) (kO ((show kd 14 = 2 from rfl))).1 (ent2 ((show kd 14 = 2 from rfl))) rfl rfl rfl (Nat.le_of_ble_eq_true rfl) ⟨rfl, rfl, Nat.le_of_ble_eq_true rfl, Nat.le_of_ble_eq_true rfl⟩ ⟨Nat.le_of_ble_eq_true rfl, Nat.le_of_ble_eq_true rfl⟩ dX6_joinInto_58 ?_
    refine A_aload C (pc := 61) 4 rfl dX6_joinInto_61 ?_
    refine A_aload_n C (pc := 63) 0 rfl dX6_joinInto_63 ?_
    refine A_g6_1 C (pc := 64) kf_X6_16 dX6_joinInto_64 ?_
    obtain ⟨z67, h67, hf⟩ := bd_i hf
    refine A_callV0 C (pc := 67) (A := [.ref (B + 14)]) (rest := []) k_X6_132 ky_X3_become kv_X3_become (m_X3_become l B D Y o ((of_decide_eq_true k16)) ((show kd 14 = 2 from rfl)) h67) (kO ((of_decide_eq_true k16))).1 (ent2 ((of_decide_eq_true k16))) rfl rfl rfl (Nat.le_of_ble_eq_true rfl) ⟨rfl, rfl, Nat.le_of_ble_eq_true rfl, Nat.le_of_ble_eq_true rfl⟩ ⟨Nat.le_of_ble_eq_true rfl, Nat.le_of_ble_eq_true rfl⟩ dX6_joinInto_67 ?_
    refine A_aload C (pc := 70) 4 rfl dX6_joinInto_70 ?_
    exact X_ra C (pc := 72) hr (Or.inl ⟨_, rfl⟩) hk ⟨Nat.le_of_ble_eq_true rfl, Nat.le_of_ble_eq_true rfl⟩ dX6_joinInto_72 hf
  · exact X_thrW C (pc := 37) hX hl9 hk hout kt_X6_73_77 (List.mem_of_getElem? (i := 7) rfl) dX6_joinInto_37 dX6_joinInto_40 dX6_joinInto_41 dX6_joinInto_44 dX6_joinInto_47 (Nat.le_of_ble_eq_true rfl) (Nat.le_of_ble_eq_true rfl) ⟨Nat.le_of_ble_eq_true rfl, Nat.le_of_ble_eq_true rfl⟩ ⟨Nat.le_of_ble_eq_true rfl, Nat.le_of_ble_eq_true rfl⟩ hf
set_option maxRecDepth 100000 in
theorem m_X6_beside (l : Launch) (hl9 : l.stackTraces = false) (B : Nat) (D : va_G) (Y : Nat → ClassId) (o : Ou) {M : Mem} {x1 : Int32} {x2 : Int32} {x3 : Int32} {r : (String ⊕ Int32) × Mem}  (hf : f_X6_beside M x1 x2 x3 = some r) : XW l yX6_beside cX6_beside 4 (some .int) rm_X6_beside 4 24 B D Y o [.ref (B + 0), .int x1, .int x2, .int x3] M tvI r := by
  refine ofAtX (L0 := [(0, .ref (B + 0)), (1, .int x1), (2, .int x2), (3, .int x3)]) (by decide +kernel) (Nat.le_of_ble_eq_true rfl) rfl (fun p e s m args below meth c C hX hr hk hout => ?_)
  dsimp only [f_X6_beside] at hf
  refine A_aload_n C (pc := 0) 0 rfl dX6_beside_0 ?_
  refine A_iload_n C (pc := 1) 1 rfl dX6_beside_1 ?_
  refine A_iload_n C (pc := 2) 2 rfl dX6_beside_2 ?_
  refine A_iload_n C (pc := 3) 3 rfl dX6_beside_3 ?_
  refine A_iconst C (pc := 4) ic_0 dX6_beside_4 ?_
  obtain ⟨z5, h5, hf⟩ := bd_i hf
  refine X_callV C (pc := 5) hX hk hout (A := [.int x1, .int x2, .int x3, .int 0]) (rest := []) kl_X6_135 ky_X6_joinInto kv_X6_joinInto (m_X6_joinInto l hl9 B D Y o  h5) (by decide) rfl rfl rfl rfl (Nat.le_of_ble_eq_true rfl) ⟨rfl, rfl, Nat.le_of_ble_eq_true rfl, Nat.le_of_ble_eq_true rfl⟩ ⟨Nat.le_of_ble_eq_true rfl, Nat.le_of_ble_eq_true rfl⟩ ⟨Nat.le_of_ble_eq_true rfl, Nat.le_of_ble_eq_true rfl⟩ dX6_beside_5 hf (fun v5 _ hf => ?_)
  obtain ⟨k5, hf⟩ := chk_i hf
  refine A_g3_0 C (pc := 8) ((of_decide_eq_true k5)) kf_X6_56 dX6_beside_8 ?_
  exact X_ri C (pc := 11) hr hk rfl ⟨Nat.le_of_ble_eq_true rfl, Nat.le_of_ble_eq_true rfl⟩ dX6_beside_11 hf
set_option maxRecDepth 100000 in
theorem m_X6_ends (l : Launch) (hl9 : l.stackTraces = false) (B : Nat) (D : va_G) (Y : Nat → ClassId) (o : Ou) {M : Mem} {x1 : Int32} {x2 : Int32} {r : (String ⊕ Int32) × Mem}  (hf : f_X6_ends M x1 x2 = some r) : XW l yX6_ends cX6_ends 4 (some .int) rm_X6_ends 1 6 B D Y o [.ref (B + 0), .int x1, .int x2] M tvI r := by
  refine ofAtX (L0 := [(0, .ref (B + 0)), (1, .int x1), (2, .int x2)]) (by decide +kernel) (Nat.le_of_ble_eq_true rfl) rfl (fun p e s m args below meth c C hX hr hk hout => ?_)
  dsimp only [f_X6_ends] at hf
  refine A_aload_n C (pc := 0) 0 rfl dX6_ends_0 ?_
  refine A_iload_n C (pc := 1) 1 rfl dX6_ends_1 ?_
  obtain ⟨z2, h2, hf⟩ := bd_i hf
  refine X_callV C (pc := 2) hX hk hout (A := [.int x1]) (rest := []) kl_X6_48 ky_X6_orderAt kv_X6_orderAt (m_X6_orderAt l hl9 B D Y o  h2) (by decide) rfl rfl rfl rfl (Nat.le_of_ble_eq_true rfl) ⟨rfl, rfl, Nat.le_of_ble_eq_true rfl, Nat.le_of_ble_eq_true rfl⟩ ⟨Nat.le_of_ble_eq_true rfl, Nat.le_of_ble_eq_true rfl⟩ ⟨Nat.le_of_ble_eq_true rfl, Nat.le_of_ble_eq_true rfl⟩ dX6_ends_2 hf (fun v2 _ hf => ?_)
  obtain ⟨k2, hf⟩ := chk_i hf
  refine A_astore_n C (pc := 5) [(2, .int x2), (3, .ref (B + v2))] rfl (by decide) [3, 0] rfl dX6_ends_5 ?_
  refine A_iload_n C (pc := 6) 0 rfl dX6_ends_6 ?_
  refine A_if_eq C (pc := 7) 21 (by decide) dX6_ends_7 hf (fun _ hf => ?_) (fun _ hf => ?_)
  · refine A_aload_n C (pc := 21) 1 rfl dX6_ends_21 ?_
    refine A_aload_n C (pc := 22) 1 rfl dX6_ends_22 ?_
    obtain ⟨z23, h23, hf⟩ := bd_i hf
    refine A_callV1 C (pc := 23) (A := []) (rest := [.ref (B + v2)]) k_X6_92 ky_X3_all kv_X3_all (m_X3_all l B D Y o ((of_decide_eq_true k2)) h23) (kO ((of_decide_eq_true k2))).1 (ent2 ((of_decide_eq_true k2))) rfl rfl rfl (Nat.le_of_ble_eq_true rfl) ⟨rfl, rfl, Nat.le_of_ble_eq_true rfl, Nat.le_of_ble_eq_true rfl⟩ ⟨Nat.le_of_ble_eq_true rfl, Nat.le_of_ble_eq_true rfl⟩ dX6_ends_23 ?_
    obtain ⟨z26, h26, hf⟩ := bd_i hf
    refine A_callV1 C (pc := 26) (A := [.int z23]) (rest := []) k_X6_158 ky_X3_leastOf kv_X3_leastOf (m_X3_leastOf l B D Y o ((of_decide_eq_true k2)) h26) (kO ((of_decide_eq_true k2))).1 (ent2 ((of_decide_eq_true k2))) rfl rfl rfl (Nat.le_of_ble_eq_true rfl) ⟨rfl, rfl, Nat.le_of_ble_eq_true rfl, Nat.le_of_ble_eq_true rfl⟩ ⟨Nat.le_of_ble_eq_true rfl, Nat.le_of_ble_eq_true rfl⟩ dX6_ends_26 ?_
    exact X_ri C (pc := 29) hr hk rfl ⟨Nat.le_of_ble_eq_true rfl, Nat.le_of_ble_eq_true rfl⟩ dX6_ends_29 hf
  · refine A_aload_n C (pc := 10) 1 rfl dX6_ends_10 ?_
    refine A_aload_n C (pc := 11) 1 rfl dX6_ends_11 ?_
    obtain ⟨z12, h12, hf⟩ := bd_i hf
    refine A_callV1 C (pc := 12) (A := []) (rest := [.ref (B + v2)]) k_X6_92 ky_X3_all kv_X3_all (m_X3_all l B D Y o ((of_decide_eq_true k2)) h12) (kO ((of_decide_eq_true k2))).1 (ent2 ((of_decide_eq_true k2))) rfl rfl rfl (Nat.le_of_ble_eq_true rfl) ⟨rfl, rfl, Nat.le_of_ble_eq_true rfl, Nat.le_of_ble_eq_true rfl⟩ ⟨Nat.le_of_ble_eq_true rfl, Nat.le_of_ble_eq_true rfl⟩ dX6_ends_12 ?_
    obtain ⟨z15, h15, hf⟩ := bd_i hf
    refine A_callV1 C (pc := 15) (A := [.int z12]) (rest := []) k_X6_155 ky_X3_greatestOf kv_X3_greatestOf (m_X3_greatestOf l B D Y o ((of_decide_eq_true k2)) h15) (kO ((of_decide_eq_true k2))).1 (ent2 ((of_decide_eq_true k2))) rfl rfl rfl (Nat.le_of_ble_eq_true rfl) ⟨rfl, rfl, Nat.le_of_ble_eq_true rfl, Nat.le_of_ble_eq_true rfl⟩ ⟨Nat.le_of_ble_eq_true rfl, Nat.le_of_ble_eq_true rfl⟩ dX6_ends_15 ?_
    refine A_goto C (pc := 18) 29 (by decide) dX6_ends_18 ?_
    exact X_ri C (pc := 29) hr hk rfl ⟨Nat.le_of_ble_eq_true rfl, Nat.le_of_ble_eq_true rfl⟩ dX6_ends_29 hf
set_option maxRecDepth 100000 in
theorem m_X6_refuseOddMany (l : Launch) (hl9 : l.stackTraces = false) (B : Nat) (D : va_G) (Y : Nat → ClassId) (o : Ou) {M : Mem} {x0 : Int32} {r : (String ⊕ Unit) × Mem}  (hf : f_X6_refuseOddMany M x0 = some r) : XW l yX6_refuseOddMany cX6_refuseOddMany 1 none rm_X6_refuseOddMany 1 6 B D Y o [.int x0] M tvU r := by
  refine ofAtX (L0 := [(0, .int x0)]) (by decide +kernel) (Nat.le_of_ble_eq_true rfl) rfl (fun p e s m args below meth c C hX hr hk hout => ?_)
  dsimp only [f_X6_refuseOddMany] at hf
  refine A_iload_n C (pc := 0) 0 rfl dX6_refuseOddMany_0 ?_
  refine A_if_lt C (pc := 1) 10 (by decide) dX6_refuseOddMany_1 hf (fun _ hf => ?_) (fun _ hf => ?_)
  · exact X_thrW C (pc := 10) hX hl9 hk hout kt_X6_216_220 (List.mem_of_getElem? (i := 1) rfl) dX6_refuseOddMany_10 dX6_refuseOddMany_13 dX6_refuseOddMany_14 dX6_refuseOddMany_17 dX6_refuseOddMany_20 (Nat.le_of_ble_eq_true rfl) (Nat.le_of_ble_eq_true rfl) ⟨Nat.le_of_ble_eq_true rfl, Nat.le_of_ble_eq_true rfl⟩ ⟨Nat.le_of_ble_eq_true rfl, Nat.le_of_ble_eq_true rfl⟩ hf
  · refine A_iload_n C (pc := 4) 0 rfl dX6_refuseOddMany_4 ?_
    refine A_bipush C (pc := 5) bc_9 dX6_refuseOddMany_5 ?_
    refine A_icmp_le C (pc := 7) 21 (by decide) dX6_refuseOddMany_7 hf (fun _ hf => ?_) (fun _ hf => ?_)
    · exact X_rv C (pc := 21) hr hk ⟨Nat.le_of_ble_eq_true rfl, Nat.le_of_ble_eq_true rfl⟩ dX6_refuseOddMany_21 hf
    · exact X_thrW C (pc := 10) hX hl9 hk hout kt_X6_216_220 (List.mem_of_getElem? (i := 1) rfl) dX6_refuseOddMany_10 dX6_refuseOddMany_13 dX6_refuseOddMany_14 dX6_refuseOddMany_17 dX6_refuseOddMany_20 (Nat.le_of_ble_eq_true rfl) (Nat.le_of_ble_eq_true rfl) ⟨Nat.le_of_ble_eq_true rfl, Nat.le_of_ble_eq_true rfl⟩ ⟨Nat.le_of_ble_eq_true rfl, Nat.le_of_ble_eq_true rfl⟩ hf
set_option maxRecDepth 100000 in
theorem m_X6_chain (l : Launch) (hl9 : l.stackTraces = false) (B : Nat) (D : va_G) (Y : Nat → ClassId) (o : Ou) {M : Mem} {x1 : Int32} {x2 : Int32} {r : (String ⊕ Int32) × Mem}  (hf : f_X6_chain M x1 x2 = some r) : XW l yX6_chain cX6_chain 4 (some .int) rm_X6_chain 2 12 B D Y o [.ref (B + 0), .int x1, .int x2] M tvI r := by
  refine ofAtX (L0 := [(0, .ref (B + 0)), (1, .int x1), (2, .int x2)]) (by decide +kernel) (Nat.le_of_ble_eq_true rfl) rfl (fun p e s m args below meth c C hX hr hk hout => ?_)
  dsimp only [f_X6_chain] at hf
  refine A_aload_n C (pc := 0) 0 rfl dX6_chain_0 ?_
  refine A_iload_n C (pc := 1) 1 rfl dX6_chain_1 ?_
  obtain ⟨z2, h2, hf⟩ := bd_i hf
  refine X_callV C (pc := 2) hX hk hout (A := [.int x1]) (rest := []) kl_X6_48 ky_X6_orderAt kv_X6_orderAt (m_X6_orderAt l hl9 B D Y o  h2) (by decide) rfl rfl rfl rfl (Nat.le_of_ble_eq_true rfl) ⟨rfl, rfl, Nat.le_of_ble_eq_true rfl, Nat.le_of_ble_eq_true rfl⟩ ⟨Nat.le_of_ble_eq_true rfl, Nat.le_of_ble_eq_true rfl⟩ ⟨Nat.le_of_ble_eq_true rfl, Nat.le_of_ble_eq_true rfl⟩ dX6_chain_2 hf (fun v2 _ hf => ?_)
  obtain ⟨k2, hf⟩ := chk_i hf
  refine A_astore_n C (pc := 5) [(2, .int x2), (3, .ref (B + v2))] rfl (by decide) [3, 0] rfl dX6_chain_5 ?_
  refine A_iload_n C (pc := 6) 0 rfl dX6_chain_6 ?_
  obtain ⟨z7, h7, hf⟩ := bd_i hf
  refine X_callS C (pc := 7) hX hk hout (A := [.int x2]) (rest := []) kl_X6_52 ky_X6_refuseOddMany ks_X6_refuseOddMany (m_X6_refuseOddMany l hl9 B D Y o  h7) rfl rfl (Nat.le_of_ble_eq_true rfl) ⟨rfl, rfl, Nat.le_of_ble_eq_true rfl, Nat.le_of_ble_eq_true rfl⟩ ⟨Nat.le_of_ble_eq_true rfl, Nat.le_of_ble_eq_true rfl⟩ ⟨Nat.le_of_ble_eq_true rfl, Nat.le_of_ble_eq_true rfl⟩ dX6_chain_7 hf (fun v7 _ hf => ?_)
  refine A_aload_n C (pc := 10) 1 rfl dX6_chain_10 ?_
  refine A_iload_n C (pc := 11) 0 rfl dX6_chain_11 ?_
  obtain ⟨z12, h12, hf⟩ := bd_i hf
  refine A_callV0 C (pc := 12) (A := [.int x2]) (rest := []) k_X6_60 ky_X3_clearTo kv_X3_clearTo (m_X3_clearTo l B D Y o ((of_decide_eq_true k2)) h12) (kO ((of_decide_eq_true k2))).1 (ent2 ((of_decide_eq_true k2))) rfl rfl rfl (Nat.le_of_ble_eq_true rfl) ⟨rfl, rfl, Nat.le_of_ble_eq_true rfl, Nat.le_of_ble_eq_true rfl⟩ ⟨Nat.le_of_ble_eq_true rfl, Nat.le_of_ble_eq_true rfl⟩ dX6_chain_12 ?_
  refine A_aload_n C (pc := 15) 1 rfl dX6_chain_15 ?_
  obtain ⟨z16, h16, hf⟩ := bd_i hf
  refine A_callV0 C (pc := 16) (A := []) (rest := []) k_X6_63 ky_X3_lineUp kv_X3_lineUp (m_X3_lineUp l B D Y o ((of_decide_eq_true k2)) h16) (kO ((of_decide_eq_true k2))).1 (ent2 ((of_decide_eq_true k2))) rfl rfl rfl (Nat.le_of_ble_eq_true rfl) ⟨rfl, rfl, Nat.le_of_ble_eq_true rfl, Nat.le_of_ble_eq_true rfl⟩ ⟨Nat.le_of_ble_eq_true rfl, Nat.le_of_ble_eq_true rfl⟩ dX6_chain_16 ?_
  refine A_aload_n C (pc := 19) 1 rfl dX6_chain_19 ?_
  obtain ⟨z20, h20, hf⟩ := bd_i hf
  refine A_callV1 C (pc := 20) (A := []) (rest := []) k_X6_66 ky_X3_pairCount kv_X3_pairCount (m_X3_pairCount l B D Y o ((of_decide_eq_true k2)) h20) (kO ((of_decide_eq_true k2))).1 (ent2 ((of_decide_eq_true k2))) rfl rfl rfl (Nat.le_of_ble_eq_true rfl) ⟨rfl, rfl, Nat.le_of_ble_eq_true rfl, Nat.le_of_ble_eq_true rfl⟩ ⟨Nat.le_of_ble_eq_true rfl, Nat.le_of_ble_eq_true rfl⟩ dX6_chain_20 ?_
  exact X_ri C (pc := 23) hr hk rfl ⟨Nat.le_of_ble_eq_true rfl, Nat.le_of_ble_eq_true rfl⟩ dX6_chain_23 hf
set_option maxRecDepth 100000 in
theorem m_X6_isChain (l : Launch) (hl9 : l.stackTraces = false) (B : Nat) (D : va_G) (Y : Nat → ClassId) (o : Ou) {M : Mem} {x1 : Int32} {x2 : Int32} {r : (String ⊕ Int32) × Mem}  (hf : f_X6_isChain M x1 x2 = some r) : XW l yX6_isChain cX6_isChain 3 (some .boolean) rm_X6_isChain 2 12 B D Y o [.ref (B + 0), .int x1, .int x2] M tvI r := by
  refine ofAtX (L0 := [(0, .ref (B + 0)), (1, .int x1), (2, .int x2)]) (by decide +kernel) (Nat.le_of_ble_eq_true rfl) rfl (fun p e s m args below meth c C hX hr hk hout => ?_)
  dsimp only [f_X6_isChain] at hf
  refine A_aload_n C (pc := 0) 0 rfl dX6_isChain_0 ?_
  refine A_iload_n C (pc := 1) 1 rfl dX6_isChain_1 ?_
  refine A_iload_n C (pc := 2) 2 rfl dX6_isChain_2 ?_
  obtain ⟨z3, h3, hf⟩ := bd_i hf
  refine X_callV C (pc := 3) hX hk hout (A := [.int x1, .int x2]) (rest := []) kl_X6_98 ky_X6_orderWithSet kv_X6_orderWithSet (m_X6_orderWithSet l hl9 B D Y o  h3) (by decide) rfl rfl rfl rfl (Nat.le_of_ble_eq_true rfl) ⟨rfl, rfl, Nat.le_of_ble_eq_true rfl, Nat.le_of_ble_eq_true rfl⟩ ⟨Nat.le_of_ble_eq_true rfl, Nat.le_of_ble_eq_true rfl⟩ ⟨Nat.le_of_ble_eq_true rfl, Nat.le_of_ble_eq_true rfl⟩ dX6_isChain_3 hf (fun v3 _ hf => ?_)
  obtain ⟨k3, hf⟩ := chk_i hf
  refine A_iload_n C (pc := 6) 2 rfl dX6_isChain_6 ?_
  obtain ⟨z7, h7, hf⟩ := bd_i hf
  refine A_callV1 C (pc := 7) (A := [.int x2]) (rest := []) k_X6_165 ky_X3_isInLine kv_X3_isInLine (m_X3_isInLine l B D Y o ((of_decide_eq_true k3)) h7) (kO ((of_decide_eq_true k3))).1 (ent2 ((of_decide_eq_true k3))) rfl rfl rfl (Nat.le_of_ble_eq_true rfl) ⟨rfl, rfl, Nat.le_of_ble_eq_true rfl, Nat.le_of_ble_eq_true rfl⟩ ⟨Nat.le_of_ble_eq_true rfl, Nat.le_of_ble_eq_true rfl⟩ dX6_isChain_7 ?_
  obtain ⟨c10, hf⟩ := chk_i hf
  exact X_ri C (pc := 10) hr hk (isb_nz c10) ⟨Nat.le_of_ble_eq_true rfl, Nat.le_of_ble_eq_true rfl⟩ dX6_isChain_10 hf
set_option maxRecDepth 100000 in
theorem m_X6_layOutRow (l : Launch) (hl9 : l.stackTraces = false) (B : Nat) (D : va_G) (Y : Nat → ClassId) (o : Ou) {M : Mem} {q1 : Nat} {x2 : Int32} {r : (String ⊕ Unit) × Mem} (hq1 : kd q1 = 2) (hf : f_X6_layOutRow M q1 x2 = some r) : XW l yX6_layOutRow cX6_layOutRow 4 none rm_X6_layOutRow 1 6 B D Y o [.ref (B + 0), .ref (B + q1), .int x2] M tvU r := by
  refine ofAtX (L0 := [(0, .ref (B + 0)), (1, .ref (B + q1)), (2, .int x2)]) (by decide +kernel) (Nat.le_of_ble_eq_true rfl) rfl (fun p e s m args below meth c C hX hr hk hout => ?_)
  dsimp only [f_X6_layOutRow] at hf
  refine A_aload_n C (pc := 0) 0 rfl dX6_layOutRow_0 ?_
  refine A_g6_3 C (pc := 1) kf_X6_30 dX6_layOutRow_1 ?_
  refine A_aload_n C (pc := 4) 1 rfl dX6_layOutRow_4 ?_
  obtain ⟨z5, h5, hf⟩ := bd_i hf
  refine A_callV1 C (pc := 5) (A := [.ref (B + q1)]) (rest := []) k_X6_240 ky_X4_fill kv_X4_fill (m_X4_fill l B D Y o ((show kd 20 = 4 from rfl)) hq1 h5) (kR ((show kd 20 = 4 from rfl))).1 (ent4 ((show kd 20 = 4 from rfl))) rfl rfl rfl (Nat.le_of_ble_eq_true rfl) ⟨rfl, rfl, Nat.le_of_ble_eq_true rfl, Nat.le_of_ble_eq_true rfl⟩ ⟨Nat.le_of_ble_eq_true rfl, Nat.le_of_ble_eq_true rfl⟩ dX6_layOutRow_5 ?_
  refine A_istore_n C (pc := 8) [(0, .ref (B + 0)), (1, .ref (B + q1)), (2, .int x2), (3, .int z5.1)] rfl (by decide) [1, 2, 3, 0] rfl dX6_layOutRow_8 ?_
  refine A_iload_n C (pc := 9) 2 rfl dX6_layOutRow_9 ?_
  refine A_if_lt C (pc := 10) 18 (by decide) dX6_layOutRow_10 hf (fun _ hf => ?_) (fun _ hf => ?_)
  · exact X_thrW C (pc := 18) hX hl9 hk hout kt_X6_199_203 (List.mem_of_getElem? (i := 6) rfl) dX6_layOutRow_18 dX6_layOutRow_21 dX6_layOutRow_22 dX6_layOutRow_25 dX6_layOutRow_28 (Nat.le_of_ble_eq_true rfl) (Nat.le_of_ble_eq_true rfl) ⟨Nat.le_of_ble_eq_true rfl, Nat.le_of_ble_eq_true rfl⟩ ⟨Nat.le_of_ble_eq_true rfl, Nat.le_of_ble_eq_true rfl⟩ hf
  · refine A_iload_n C (pc := 13) 2 rfl dX6_layOutRow_13 ?_
    refine A_iload_n C (pc := 14) 3 rfl dX6_layOutRow_14 ?_
    refine A_icmp_lt C (pc := 15) 29 (by decide) dX6_layOutRow_15 hf (fun _ hf => ?_) (fun _ hf => ?_)
    · refine A_aload_n C (pc := 29) 0 rfl dX6_layOutRow_29 ?_
      refine A_g6_3 C (pc := 30) kf_X6_30 dX6_layOutRow_30 ?_
      refine A_aload_n C (pc := 33) 1 rfl dX6_layOutRow_33 ?_
      refine A_iload_n C (pc := 34) 2 rfl dX6_layOutRow_34 ?_
      obtain ⟨z35, h35, hf⟩ := bd_i hf
      refine A_callV0 C (pc := 35) (A := [.ref (B + q1), .int x2]) (rest := []) k_X6_297 ky_X4_layOut kv_X4_layOut (m_X4_layOut l B D Y o ((show kd 20 = 4 from rfl)) hq1 h35) (kR ((show kd 20 = 4 from rfl))).1 (ent4 ((show kd 20 = 4 from rfl))) rfl rfl rfl (Nat.le_of_ble_eq_true rfl) ⟨rfl, rfl, Nat.le_of_ble_eq_true rfl, Nat.le_of_ble_eq_true rfl⟩ ⟨Nat.le_of_ble_eq_true rfl, Nat.le_of_ble_eq_true rfl⟩ dX6_layOutRow_35 ?_
      exact X_rv C (pc := 38) hr hk ⟨Nat.le_of_ble_eq_true rfl, Nat.le_of_ble_eq_true rfl⟩ dX6_layOutRow_38 hf
    · exact X_thrW C (pc := 18) hX hl9 hk hout kt_X6_199_203 (List.mem_of_getElem? (i := 6) rfl) dX6_layOutRow_18 dX6_layOutRow_21 dX6_layOutRow_22 dX6_layOutRow_25 dX6_layOutRow_28 (Nat.le_of_ble_eq_true rfl) (Nat.le_of_ble_eq_true rfl) ⟨Nat.le_of_ble_eq_true rfl, Nat.le_of_ble_eq_true rfl⟩ ⟨Nat.le_of_ble_eq_true rfl, Nat.le_of_ble_eq_true rfl⟩ hf
set_option maxRecDepth 100000 in
theorem m_X6_straighten (l : Launch) (hl9 : l.stackTraces = false) (B : Nat) (D : va_G) (Y : Nat → ClassId) (o : Ou) {M : Mem} {x1 : Int32} {x2 : Int32} {r : (String ⊕ Int32) × Mem}  (hf : f_X6_straighten M x1 x2 = some r) : XW l yX6_straighten cX6_straighten 5 (some .int) rm_X6_straighten 2 12 B D Y o [.ref (B + 0), .int x1, .int x2] M tvI r := by
  refine ofAtX (L0 := [(0, .ref (B + 0)), (1, .int x1), (2, .int x2)]) (by decide +kernel) (Nat.le_of_ble_eq_true rfl) rfl (fun p e s m args below meth c C hX hr hk hout => ?_)
  dsimp only [f_X6_straighten] at hf
  refine A_aload_n C (pc := 0) 0 rfl dX6_straighten_0 ?_
  refine A_iload_n C (pc := 1) 1 rfl dX6_straighten_1 ?_
  obtain ⟨z2, h2, hf⟩ := bd_i hf
  refine X_callV C (pc := 2) hX hk hout (A := [.int x1]) (rest := []) kl_X6_48 ky_X6_orderAt kv_X6_orderAt (m_X6_orderAt l hl9 B D Y o  h2) (by decide) rfl rfl rfl rfl (Nat.le_of_ble_eq_true rfl) ⟨rfl, rfl, Nat.le_of_ble_eq_true rfl, Nat.le_of_ble_eq_true rfl⟩ ⟨Nat.le_of_ble_eq_true rfl, Nat.le_of_ble_eq_true rfl⟩ ⟨Nat.le_of_ble_eq_true rfl, Nat.le_of_ble_eq_true rfl⟩ dX6_straighten_2 hf (fun v2 _ hf => ?_)
  obtain ⟨k2, hf⟩ := chk_i hf
  refine A_astore_n C (pc := 5) [(0, .ref (B + 0)), (2, .int x2), (3, .ref (B + v2))] rfl (by decide) [1, 3, 0] rfl dX6_straighten_5 ?_
  refine A_aload_n C (pc := 6) 0 rfl dX6_straighten_6 ?_
  refine A_aload_n C (pc := 7) 2 rfl dX6_straighten_7 ?_
  refine A_iload_n C (pc := 8) 1 rfl dX6_straighten_8 ?_
  obtain ⟨z9, h9, hf⟩ := bd_i hf
  refine X_callV C (pc := 9) hX hk hout (A := [.ref (B + v2), .int x2]) (rest := []) kl_X6_117 ky_X6_layOutRow kv_X6_layOutRow (m_X6_layOutRow l hl9 B D Y o ((of_decide_eq_true k2)) h9) (by decide) rfl rfl rfl rfl (Nat.le_of_ble_eq_true rfl) ⟨rfl, rfl, Nat.le_of_ble_eq_true rfl, Nat.le_of_ble_eq_true rfl⟩ ⟨Nat.le_of_ble_eq_true rfl, Nat.le_of_ble_eq_true rfl⟩ ⟨Nat.le_of_ble_eq_true rfl, Nat.le_of_ble_eq_true rfl⟩ dX6_straighten_9 hf (fun v9 _ hf => ?_)
  refine A_aload_n C (pc := 12) 2 rfl dX6_straighten_12 ?_
  obtain ⟨z13, h13, hf⟩ := bd_i hf
  refine A_callV1 C (pc := 13) (A := []) (rest := []) k_X6_66 ky_X3_pairCount kv_X3_pairCount (m_X3_pairCount l B D Y o ((of_decide_eq_true k2)) h13) (kO ((of_decide_eq_true k2))).1 (ent2 ((of_decide_eq_true k2))) rfl rfl rfl (Nat.le_of_ble_eq_true rfl) ⟨rfl, rfl, Nat.le_of_ble_eq_true rfl, Nat.le_of_ble_eq_true rfl⟩ ⟨Nat.le_of_ble_eq_true rfl, Nat.le_of_ble_eq_true rfl⟩ dX6_straighten_13 ?_
  refine A_istore C (pc := 16) [(0, .ref (B + 0)), (3, .ref (B + v2)), (4, .int z13)] (by decide) [1, 3, 0] rfl dX6_straighten_16 ?_
  refine A_aload_n C (pc := 18) 1 rfl dX6_straighten_18 ?_
  refine A_aload_n C (pc := 19) 0 rfl dX6_straighten_19 ?_
  refine A_g6_3 C (pc := 20) kf_X6_30 dX6_straighten_20 ?_
  refine A_g4_2 C (pc := 23) ((show kd 20 = 4 from rfl)) kf_X6_121 dX6_straighten_23 ?_
  obtain ⟨z26, h26, hf⟩ := bd_i hf
  refine A_callV0 C (pc := 26) (A := [.ref (B + (20 + 3))]) (rest := []) k_X6_124 ky_X3_standAs kv_X3_standAs (m_X3_standAs l B D Y o ((of_decide_eq_true k2)) ((iR3 (show kd 20 = 4 from rfl))) h26) (kO ((of_decide_eq_true k2))).1 (ent2 ((of_decide_eq_true k2))) rfl rfl rfl (Nat.le_of_ble_eq_true rfl) ⟨rfl, rfl, Nat.le_of_ble_eq_true rfl, Nat.le_of_ble_eq_true rfl⟩ ⟨Nat.le_of_ble_eq_true rfl, Nat.le_of_ble_eq_true rfl⟩ dX6_straighten_26 ?_
  refine A_aload_n C (pc := 29) 1 rfl dX6_straighten_29 ?_
  obtain ⟨z30, h30, hf⟩ := bd_i hf
  refine A_callV1 C (pc := 30) (A := []) (rest := []) k_X6_66 ky_X3_pairCount kv_X3_pairCount (m_X3_pairCount l B D Y o ((of_decide_eq_true k2)) h30) (kO ((of_decide_eq_true k2))).1 (ent2 ((of_decide_eq_true k2))) rfl rfl rfl (Nat.le_of_ble_eq_true rfl) ⟨rfl, rfl, Nat.le_of_ble_eq_true rfl, Nat.le_of_ble_eq_true rfl⟩ ⟨Nat.le_of_ble_eq_true rfl, Nat.le_of_ble_eq_true rfl⟩ dX6_straighten_30 ?_
  refine A_iload C (pc := 33) 2 rfl dX6_straighten_33 ?_
  refine A_isub C (pc := 35) dX6_straighten_35 ?_
  exact X_ri C (pc := 36) hr hk rfl ⟨Nat.le_of_ble_eq_true rfl, Nat.le_of_ble_eq_true rfl⟩ dX6_straighten_36 hf
set_option maxRecDepth 100000 in
theorem m_X6_fewestAparts (l : Launch) (hl9 : l.stackTraces = false) (B : Nat) (D : va_G) (Y : Nat → ClassId) (o : Ou) {M : Mem} {x1 : Int32} {r : (String ⊕ Int32) × Mem}  (hf : f_X6_fewestAparts M x1 = some r) : XW l yX6_fewestAparts cX6_fewestAparts 2 (some .int) rm_X6_fewestAparts 1 6 B D Y o [.ref (B + 0), .int x1] M tvI r := by
  refine ofAtX (L0 := [(0, .ref (B + 0)), (1, .int x1)]) (by decide +kernel) (Nat.le_of_ble_eq_true rfl) rfl (fun p e s m args below meth c C hX hr hk hout => ?_)
  dsimp only [f_X6_fewestAparts] at hf
  refine A_aload_n C (pc := 0) 0 rfl dX6_fewestAparts_0 ?_
  refine A_iload_n C (pc := 1) 1 rfl dX6_fewestAparts_1 ?_
  obtain ⟨z2, h2, hf⟩ := bd_i hf
  refine X_callV C (pc := 2) hX hk hout (A := [.int x1]) (rest := []) kl_X6_48 ky_X6_orderAt kv_X6_orderAt (m_X6_orderAt l hl9 B D Y o  h2) (by decide) rfl rfl rfl rfl (Nat.le_of_ble_eq_true rfl) ⟨rfl, rfl, Nat.le_of_ble_eq_true rfl, Nat.le_of_ble_eq_true rfl⟩ ⟨Nat.le_of_ble_eq_true rfl, Nat.le_of_ble_eq_true rfl⟩ ⟨Nat.le_of_ble_eq_true rfl, Nat.le_of_ble_eq_true rfl⟩ dX6_fewestAparts_2 hf (fun v2 _ hf => ?_)
  obtain ⟨k2, hf⟩ := chk_i hf
  obtain ⟨z5, h5, hf⟩ := bd_i hf
  refine A_callS1 C (pc := 5) (A := [.ref (B + v2)]) (rest := []) k_X6_183 ky_X0_layerCount ks_X0_layerCount (m_X0_layerCount l B D Y o ((of_decide_eq_true k2)) h5) rfl rfl (Nat.le_of_ble_eq_true rfl) ⟨rfl, rfl, Nat.le_of_ble_eq_true rfl, Nat.le_of_ble_eq_true rfl⟩ ⟨Nat.le_of_ble_eq_true rfl, Nat.le_of_ble_eq_true rfl⟩ dX6_fewestAparts_5 ?_
  exact X_ri C (pc := 8) hr hk rfl ⟨Nat.le_of_ble_eq_true rfl, Nat.le_of_ble_eq_true rfl⟩ dX6_fewestAparts_8 hf
set_option maxRecDepth 100000 in
theorem m_X6_setAt (l : Launch) (hl9 : l.stackTraces = false) (B : Nat) (D : va_G) (Y : Nat → ClassId) (o : Ou) {M : Mem} {x1 : Int32} {x2 : Int32} {r : (String ⊕ Int32) × Mem}  (hf : f_X6_setAt M x1 x2 = some r) : XW l yX6_setAt cX6_setAt 4 (some .int) rm_X6_setAt 2 12 B D Y o [.ref (B + 0), .int x1, .int x2] M tvI r := by
  refine ofAtX (L0 := [(0, .ref (B + 0)), (1, .int x1), (2, .int x2)]) (by decide +kernel) (Nat.le_of_ble_eq_true rfl) rfl (fun p e s m args below meth c C hX hr hk hout => ?_)
  dsimp only [f_X6_setAt] at hf
  refine A_aload_n C (pc := 0) 0 rfl dX6_setAt_0 ?_
  refine A_iload_n C (pc := 1) 1 rfl dX6_setAt_1 ?_
  obtain ⟨z2, h2, hf⟩ := bd_i hf
  refine X_callV C (pc := 2) hX hk hout (A := [.int x1]) (rest := []) kl_X6_48 ky_X6_orderAt kv_X6_orderAt (m_X6_orderAt l hl9 B D Y o  h2) (by decide) rfl rfl rfl rfl (Nat.le_of_ble_eq_true rfl) ⟨rfl, rfl, Nat.le_of_ble_eq_true rfl, Nat.le_of_ble_eq_true rfl⟩ ⟨Nat.le_of_ble_eq_true rfl, Nat.le_of_ble_eq_true rfl⟩ ⟨Nat.le_of_ble_eq_true rfl, Nat.le_of_ble_eq_true rfl⟩ dX6_setAt_2 hf (fun v2 _ hf => ?_)
  obtain ⟨k2, hf⟩ := chk_i hf
  refine A_iload_n C (pc := 5) 2 rfl dX6_setAt_5 ?_
  obtain ⟨z6, h6, hf⟩ := bd_i hf
  refine A_callS1 C (pc := 6) (A := [.ref (B + v2), .int x2]) (rest := []) k_X6_196 ky_X1_findAt ks_X1_findAt (m_X1_findAt l B D Y o ((of_decide_eq_true k2)) h6) rfl rfl (Nat.le_of_ble_eq_true rfl) ⟨rfl, rfl, Nat.le_of_ble_eq_true rfl, Nat.le_of_ble_eq_true rfl⟩ ⟨Nat.le_of_ble_eq_true rfl, Nat.le_of_ble_eq_true rfl⟩ dX6_setAt_6 ?_
  refine A_istore_n C (pc := 9) [(3, .int z6)] rfl (by decide) [0] rfl dX6_setAt_9 ?_
  refine A_iload_n C (pc := 10) 0 rfl dX6_setAt_10 ?_
  refine A_iconst C (pc := 11) ic_m1 dX6_setAt_11 ?_
  refine A_icmp_ne C (pc := 12) 25 (by decide) dX6_setAt_12 hf (fun _ hf => ?_) (fun _ hf => ?_)
  · refine A_iload_n C (pc := 25) 0 rfl dX6_setAt_25 ?_
    exact X_ri C (pc := 26) hr hk rfl ⟨Nat.le_of_ble_eq_true rfl, Nat.le_of_ble_eq_true rfl⟩ dX6_setAt_26 hf
  · exact X_thr C (pc := 15) hX hl9 hk hout kt_X6_199_203 (List.mem_of_getElem? (i := 8) rfl) dX6_setAt_15 dX6_setAt_18 dX6_setAt_19 dX6_setAt_21 dX6_setAt_24 (Nat.le_of_ble_eq_true rfl) (Nat.le_of_ble_eq_true rfl) ⟨Nat.le_of_ble_eq_true rfl, Nat.le_of_ble_eq_true rfl⟩ ⟨Nat.le_of_ble_eq_true rfl, Nat.le_of_ble_eq_true rfl⟩ hf
set_option maxRecDepth 100000 in
theorem m_X6_aparts (l : Launch) (hl9 : l.stackTraces = false) (B : Nat) (D : va_G) (Y : Nat → ClassId) (o : Ou) {M : Mem} {x1 : Int32} {r : (String ⊕ Int32) × Mem}  (hf : f_X6_aparts M x1 = some r) : XW l yX6_aparts cX6_aparts 2 (some .int) rm_X6_aparts 1 6 B D Y o [.ref (B + 0), .int x1] M tvI r := by
  refine ofAtX (L0 := [(0, .ref (B + 0)), (1, .int x1)]) (by decide +kernel) (Nat.le_of_ble_eq_true rfl) rfl (fun p e s m args below meth c C hX hr hk hout => ?_)
  dsimp only [f_X6_aparts] at hf
  refine A_aload_n C (pc := 0) 0 rfl dX6_aparts_0 ?_
  refine A_iload_n C (pc := 1) 1 rfl dX6_aparts_1 ?_
  obtain ⟨z2, h2, hf⟩ := bd_i hf
  refine X_callV C (pc := 2) hX hk hout (A := [.int x1]) (rest := []) kl_X6_48 ky_X6_orderAt kv_X6_orderAt (m_X6_orderAt l hl9 B D Y o  h2) (by decide) rfl rfl rfl rfl (Nat.le_of_ble_eq_true rfl) ⟨rfl, rfl, Nat.le_of_ble_eq_true rfl, Nat.le_of_ble_eq_true rfl⟩ ⟨Nat.le_of_ble_eq_true rfl, Nat.le_of_ble_eq_true rfl⟩ ⟨Nat.le_of_ble_eq_true rfl, Nat.le_of_ble_eq_true rfl⟩ dX6_aparts_2 hf (fun v2 _ hf => ?_)
  obtain ⟨k2, hf⟩ := chk_i hf
  obtain ⟨z5, h5, hf⟩ := bd_i hf
  refine A_callS1 C (pc := 5) (A := [.ref (B + v2)]) (rest := []) k_X6_186 ky_X0_apartCount ks_X0_apartCount (m_X0_apartCount l B D Y o ((of_decide_eq_true k2)) h5) rfl rfl (Nat.le_of_ble_eq_true rfl) ⟨rfl, rfl, Nat.le_of_ble_eq_true rfl, Nat.le_of_ble_eq_true rfl⟩ ⟨Nat.le_of_ble_eq_true rfl, Nat.le_of_ble_eq_true rfl⟩ dX6_aparts_5 ?_
  exact X_ri C (pc := 8) hr hk rfl ⟨Nat.le_of_ble_eq_true rfl, Nat.le_of_ble_eq_true rfl⟩ dX6_aparts_8 hf
set_option maxRecDepth 100000 in
theorem m_X6_sets (l : Launch) (hl9 : l.stackTraces = false) (B : Nat) (D : va_G) (Y : Nat → ClassId) (o : Ou) {M : Mem} {x1 : Int32} {r : (String ⊕ Int32) × Mem}  (hf : f_X6_sets M x1 = some r) : XW l yX6_sets cX6_sets 2 (some .int) rm_X6_sets 1 6 B D Y o [.ref (B + 0), .int x1] M tvI r := by
  refine ofAtX (L0 := [(0, .ref (B + 0)), (1, .int x1)]) (by decide +kernel) (Nat.le_of_ble_eq_true rfl) rfl (fun p e s m args below meth c C hX hr hk hout => ?_)
  dsimp only [f_X6_sets] at hf
  refine A_aload_n C (pc := 0) 0 rfl dX6_sets_0 ?_
  refine A_iload_n C (pc := 1) 1 rfl dX6_sets_1 ?_
  obtain ⟨z2, h2, hf⟩ := bd_i hf
  refine X_callV C (pc := 2) hX hk hout (A := [.int x1]) (rest := []) kl_X6_48 ky_X6_orderAt kv_X6_orderAt (m_X6_orderAt l hl9 B D Y o  h2) (by decide) rfl rfl rfl rfl (Nat.le_of_ble_eq_true rfl) ⟨rfl, rfl, Nat.le_of_ble_eq_true rfl, Nat.le_of_ble_eq_true rfl⟩ ⟨Nat.le_of_ble_eq_true rfl, Nat.le_of_ble_eq_true rfl⟩ ⟨Nat.le_of_ble_eq_true rfl, Nat.le_of_ble_eq_true rfl⟩ dX6_sets_2 hf (fun v2 _ hf => ?_)
  obtain ⟨k2, hf⟩ := chk_i hf
  obtain ⟨z5, h5, hf⟩ := bd_i hf
  refine A_callS1 C (pc := 5) (A := [.ref (B + v2)]) (rest := []) k_X6_189 ky_X1_count ks_X1_count (m_X1_count l B D Y o ((of_decide_eq_true k2)) h5) rfl rfl (Nat.le_of_ble_eq_true rfl) ⟨rfl, rfl, Nat.le_of_ble_eq_true rfl, Nat.le_of_ble_eq_true rfl⟩ ⟨Nat.le_of_ble_eq_true rfl, Nat.le_of_ble_eq_true rfl⟩ dX6_sets_5 ?_
  exact X_ri C (pc := 8) hr hk rfl ⟨Nat.le_of_ble_eq_true rfl, Nat.le_of_ble_eq_true rfl⟩ dX6_sets_8 hf
set_option maxRecDepth 100000 in
theorem m_X6_isNext (l : Launch) (hl9 : l.stackTraces = false) (B : Nat) (D : va_G) (Y : Nat → ClassId) (o : Ou) {M : Mem} {x1 : Int32} {x2 : Int32} {x3 : Int32} {r : (String ⊕ Int32) × Mem}  (hf : f_X6_isNext M x1 x2 x3 = some r) : XW l yX6_isNext cX6_isNext 4 (some .boolean) rm_X6_isNext 3 18 B D Y o [.ref (B + 0), .int x1, .int x2, .int x3] M tvI r := by
  refine ofAtX (L0 := [(0, .ref (B + 0)), (1, .int x1), (2, .int x2), (3, .int x3)]) (by decide +kernel) (Nat.le_of_ble_eq_true rfl) rfl (fun p e s m args below meth c C hX hr hk hout => ?_)
  dsimp only [f_X6_isNext] at hf
  refine A_aload_n C (pc := 0) 0 rfl dX6_isNext_0 ?_
  refine A_iload_n C (pc := 1) 1 rfl dX6_isNext_1 ?_
  refine A_iload_n C (pc := 2) 2 rfl dX6_isNext_2 ?_
  refine A_iload_n C (pc := 3) 3 rfl dX6_isNext_3 ?_
  obtain ⟨z4, h4, hf⟩ := bd_i hf
  refine X_callV C (pc := 4) hX hk hout (A := [.int x1, .int x2, .int x3]) (rest := []) kl_X6_101 ky_X6_orderWithBoth kv_X6_orderWithBoth (m_X6_orderWithBoth l hl9 B D Y o  h4) (by decide) rfl rfl rfl rfl (Nat.le_of_ble_eq_true rfl) ⟨rfl, rfl, Nat.le_of_ble_eq_true rfl, Nat.le_of_ble_eq_true rfl⟩ ⟨Nat.le_of_ble_eq_true rfl, Nat.le_of_ble_eq_true rfl⟩ ⟨Nat.le_of_ble_eq_true rfl, Nat.le_of_ble_eq_true rfl⟩ dX6_isNext_4 hf (fun v4 _ hf => ?_)
  obtain ⟨k4, hf⟩ := chk_i hf
  refine A_iload_n C (pc := 7) 2 rfl dX6_isNext_7 ?_
  refine A_iload_n C (pc := 8) 3 rfl dX6_isNext_8 ?_
  obtain ⟨z9, h9, hf⟩ := bd_i hf
  refine A_callV1 C (pc := 9) (A := [.int x2, .int x3]) (rest := []) k_X6_109 ky_X3_isNextBelow kv_X3_isNextBelow (m_X3_isNextBelow l B D Y o ((of_decide_eq_true k4)) h9) (kO ((of_decide_eq_true k4))).1 (ent2 ((of_decide_eq_true k4))) rfl rfl rfl (Nat.le_of_ble_eq_true rfl) ⟨rfl, rfl, Nat.le_of_ble_eq_true rfl, Nat.le_of_ble_eq_true rfl⟩ ⟨Nat.le_of_ble_eq_true rfl, Nat.le_of_ble_eq_true rfl⟩ dX6_isNext_9 ?_
  obtain ⟨c12, hf⟩ := chk_i hf
  exact X_ri C (pc := 12) hr hk (isb_nz c12) ⟨Nat.le_of_ble_eq_true rfl, Nat.le_of_ble_eq_true rfl⟩ dX6_isNext_12 hf
set_option maxRecDepth 100000 in
theorem m_X6_nextRow (l : Launch) (hl9 : l.stackTraces = false) (B : Nat) (D : va_G) (Y : Nat → ClassId) (o : Ou) {M : Mem} {x1 : Int32} {x2 : Int32} {r : (String ⊕ Int32) × Mem}  (hf : f_X6_nextRow M x1 x2 = some r) : XW l yX6_nextRow cX6_nextRow 5 (some .int) rm_X6_nextRow 3 18 B D Y o [.ref (B + 0), .int x1, .int x2] M tvI r := by
  refine ofAtX (L0 := [(0, .ref (B + 0)), (1, .int x1), (2, .int x2)]) (by decide +kernel) (Nat.le_of_ble_eq_true rfl) rfl (fun p e s m args below meth c C hX hr hk hout => ?_)
  dsimp only [f_X6_nextRow] at hf
  refine A_aload_n C (pc := 0) 0 rfl dX6_nextRow_0 ?_
  refine A_iload_n C (pc := 1) 1 rfl dX6_nextRow_1 ?_
  obtain ⟨z2, h2, hf⟩ := bd_i hf
  refine X_callV C (pc := 2) hX hk hout (A := [.int x1]) (rest := []) kl_X6_48 ky_X6_orderAt kv_X6_orderAt (m_X6_orderAt l hl9 B D Y o  h2) (by decide) rfl rfl rfl rfl (Nat.le_of_ble_eq_true rfl) ⟨rfl, rfl, Nat.le_of_ble_eq_true rfl, Nat.le_of_ble_eq_true rfl⟩ ⟨Nat.le_of_ble_eq_true rfl, Nat.le_of_ble_eq_true rfl⟩ ⟨Nat.le_of_ble_eq_true rfl, Nat.le_of_ble_eq_true rfl⟩ dX6_nextRow_2 hf (fun v2 _ hf => ?_)
  obtain ⟨k2, hf⟩ := chk_i hf
  refine A_astore_n C (pc := 5) [(0, .ref (B + 0)), (2, .int x2), (3, .ref (B + v2))] rfl (by decide) [1, 3, 0] rfl dX6_nextRow_5 ?_
  refine A_aload_n C (pc := 6) 0 rfl dX6_nextRow_6 ?_
  refine A_g6_3 C (pc := 7) kf_X6_30 dX6_nextRow_7 ?_
  refine A_aload_n C (pc := 10) 2 rfl dX6_nextRow_10 ?_
  refine A_iload_n C (pc := 11) 1 rfl dX6_nextRow_11 ?_
  obtain ⟨z12, h12, hf⟩ := bd_i hf
  refine A_callV1 C (pc := 12) (A := [.ref (B + v2), .int x2]) (rest := []) k_X6_235 ky_X4_findPlace kv_X4_findPlace (m_X4_findPlace l B D Y o ((show kd 20 = 4 from rfl)) ((of_decide_eq_true k2)) h12) (kR ((show kd 20 = 4 from rfl))).1 (ent4 ((show kd 20 = 4 from rfl))) rfl rfl rfl (Nat.le_of_ble_eq_true rfl) ⟨rfl, rfl, Nat.le_of_ble_eq_true rfl, Nat.le_of_ble_eq_true rfl⟩ ⟨Nat.le_of_ble_eq_true rfl, Nat.le_of_ble_eq_true rfl⟩ dX6_nextRow_12 ?_
  refine A_istore C (pc := 15) [(0, .ref (B + 0)), (3, .ref (B + v2)), (4, .int z12.1)] (by decide) [1, 3, 0] rfl dX6_nextRow_15 ?_
  refine A_iload C (pc := 17) 2 rfl dX6_nextRow_17 ?_
  refine A_iconst C (pc := 19) ic_m1 dX6_nextRow_19 ?_
  refine A_icmp_ne C (pc := 20) 33 (by decide) dX6_nextRow_20 hf (fun _ hf => ?_) (fun _ hf => ?_)
  · refine A_iload C (pc := 33) 2 rfl dX6_nextRow_33 ?_
    refine A_iconst C (pc := 35) ic_1 dX6_nextRow_35 ?_
    refine A_iadd C (pc := 36) dX6_nextRow_36 ?_
    refine A_aload_n C (pc := 37) 0 rfl dX6_nextRow_37 ?_
    refine A_g6_3 C (pc := 38) kf_X6_30 dX6_nextRow_38 ?_
    refine A_aload_n C (pc := 41) 1 rfl dX6_nextRow_41 ?_
    obtain ⟨z42, h42, hf⟩ := bd_i hf
    refine A_callV1 C (pc := 42) (A := [.ref (B + v2)]) (rest := [.int (z12.1 + 1)]) k_X6_231 ky_X4_count kv_X4_count (m_X4_count l B D Y o ((show kd 20 = 4 from rfl)) ((of_decide_eq_true k2)) h42) (kR ((show kd 20 = 4 from rfl))).1 (ent4 ((show kd 20 = 4 from rfl))) rfl rfl rfl (Nat.le_of_ble_eq_true rfl) ⟨rfl, rfl, Nat.le_of_ble_eq_true rfl, Nat.le_of_ble_eq_true rfl⟩ ⟨Nat.le_of_ble_eq_true rfl, Nat.le_of_ble_eq_true rfl⟩ dX6_nextRow_42 ?_
    refine A_icmp_lt C (pc := 45) 50 (by decide) dX6_nextRow_45 hf (fun _ hf => ?_) (fun _ hf => ?_)
    · refine A_aload_n C (pc := 50) 0 rfl dX6_nextRow_50 ?_
      refine A_aload_n C (pc := 51) 1 rfl dX6_nextRow_51 ?_
      refine A_iload C (pc := 52) 2 rfl dX6_nextRow_52 ?_
      refine A_iconst C (pc := 54) ic_1 dX6_nextRow_54 ?_
      refine A_iadd C (pc := 55) dX6_nextRow_55 ?_
      obtain ⟨z56, h56, hf⟩ := bd_i hf
      refine X_callV C (pc := 56) hX hk hout (A := [.ref (B + v2), .int (z12.1 + 1)]) (rest := []) kl_X6_117 ky_X6_layOutRow kv_X6_layOutRow (m_X6_layOutRow l hl9 B D Y o ((of_decide_eq_true k2)) h56) (by decide) rfl rfl rfl rfl (Nat.le_of_ble_eq_true rfl) ⟨rfl, rfl, Nat.le_of_ble_eq_true rfl, Nat.le_of_ble_eq_true rfl⟩ ⟨Nat.le_of_ble_eq_true rfl, Nat.le_of_ble_eq_true rfl⟩ ⟨Nat.le_of_ble_eq_true rfl, Nat.le_of_ble_eq_true rfl⟩ dX6_nextRow_56 hf (fun v56 _ hf => ?_)
      refine A_aload_n C (pc := 59) 0 rfl dX6_nextRow_59 ?_
      refine A_g6_3 C (pc := 60) kf_X6_30 dX6_nextRow_60 ?_
      refine A_aload_n C (pc := 63) 1 rfl dX6_nextRow_63 ?_
      obtain ⟨z64, h64, hf⟩ := bd_i hf
      refine A_callV1 C (pc := 64) (A := [.ref (B + v2)]) (rest := []) k_X6_232 ky_X4_lineAsNumber kv_X4_lineAsNumber (m_X4_lineAsNumber l B D Y o ((show kd 20 = 4 from rfl)) ((of_decide_eq_true k2)) h64) (kR ((show kd 20 = 4 from rfl))).1 (ent4 ((show kd 20 = 4 from rfl))) rfl rfl rfl (Nat.le_of_ble_eq_true rfl) ⟨rfl, rfl, Nat.le_of_ble_eq_true rfl, Nat.le_of_ble_eq_true rfl⟩ ⟨Nat.le_of_ble_eq_true rfl, Nat.le_of_ble_eq_true rfl⟩ dX6_nextRow_64 ?_
      exact X_ri C (pc := 67) hr hk rfl ⟨Nat.le_of_ble_eq_true rfl, Nat.le_of_ble_eq_true rfl⟩ dX6_nextRow_67 hf
    · refine A_iconst C (pc := 48) ic_m1 dX6_nextRow_48 ?_
      exact X_ri C (pc := 49) hr hk rfl ⟨Nat.le_of_ble_eq_true rfl, Nat.le_of_ble_eq_true rfl⟩ dX6_nextRow_49 hf
  · exact X_thr C (pc := 23) hX hl9 hk hout kt_X6_216_220 (List.mem_of_getElem? (i := 10) rfl) dX6_nextRow_23 dX6_nextRow_26 dX6_nextRow_27 dX6_nextRow_29 dX6_nextRow_32 (Nat.le_of_ble_eq_true rfl) (Nat.le_of_ble_eq_true rfl) ⟨Nat.le_of_ble_eq_true rfl, Nat.le_of_ble_eq_true rfl⟩ ⟨Nat.le_of_ble_eq_true rfl, Nat.le_of_ble_eq_true rfl⟩ hf
set_option maxRecDepth 100000 in
theorem m_X6_tops (l : Launch) (hl9 : l.stackTraces = false) (B : Nat) (D : va_G) (Y : Nat → ClassId) (o : Ou) {M : Mem} {x1 : Int32} {x2 : Int32} {r : (String ⊕ Int32) × Mem}  (hf : f_X6_tops M x1 x2 = some r) : XW l yX6_tops cX6_tops 4 (some .int) rm_X6_tops 2 12 B D Y o [.ref (B + 0), .int x1, .int x2] M tvI r := by
  refine ofAtX (L0 := [(0, .ref (B + 0)), (1, .int x1), (2, .int x2)]) (by decide +kernel) (Nat.le_of_ble_eq_true rfl) rfl (fun p e s m args below meth c C hX hr hk hout => ?_)
  dsimp only [f_X6_tops] at hf
  refine A_aload_n C (pc := 0) 0 rfl dX6_tops_0 ?_
  refine A_iload_n C (pc := 1) 1 rfl dX6_tops_1 ?_
  refine A_iload_n C (pc := 2) 2 rfl dX6_tops_2 ?_
  obtain ⟨z3, h3, hf⟩ := bd_i hf
  refine X_callV C (pc := 3) hX hk hout (A := [.int x1, .int x2]) (rest := []) kl_X6_98 ky_X6_orderWithSet kv_X6_orderWithSet (m_X6_orderWithSet l hl9 B D Y o  h3) (by decide) rfl rfl rfl rfl (Nat.le_of_ble_eq_true rfl) ⟨rfl, rfl, Nat.le_of_ble_eq_true rfl, Nat.le_of_ble_eq_true rfl⟩ ⟨Nat.le_of_ble_eq_true rfl, Nat.le_of_ble_eq_true rfl⟩ ⟨Nat.le_of_ble_eq_true rfl, Nat.le_of_ble_eq_true rfl⟩ dX6_tops_3 hf (fun v3 _ hf => ?_)
  obtain ⟨k3, hf⟩ := chk_i hf
  refine A_astore_n C (pc := 6) [(2, .int x2), (3, .ref (B + v3))] rfl (by decide) [3, 0] rfl dX6_tops_6 ?_
  refine A_aload_n C (pc := 7) 1 rfl dX6_tops_7 ?_
  refine A_iload_n C (pc := 8) 0 rfl dX6_tops_8 ?_
  obtain ⟨z9, h9, hf⟩ := bd_i hf
  refine A_callV1 C (pc := 9) (A := [.int x2]) (rest := []) k_X6_204 ky_X3_isClosedBelow kv_X3_isClosedBelow (m_X3_isClosedBelow l B D Y o ((of_decide_eq_true k3)) h9) (kO ((of_decide_eq_true k3))).1 (ent2 ((of_decide_eq_true k3))) rfl rfl rfl (Nat.le_of_ble_eq_true rfl) ⟨rfl, rfl, Nat.le_of_ble_eq_true rfl, Nat.le_of_ble_eq_true rfl⟩ ⟨Nat.le_of_ble_eq_true rfl, Nat.le_of_ble_eq_true rfl⟩ dX6_tops_9 ?_
  refine A_if_eq C (pc := 12) 23 (by decide) dX6_tops_12 hf (fun _ hf => ?_) (fun _ hf => ?_)
  · refine A_bipush C (pc := 23) bc_m9 dX6_tops_23 ?_
    exact X_ri C (pc := 25) hr hk rfl ⟨Nat.le_of_ble_eq_true rfl, Nat.le_of_ble_eq_true rfl⟩ dX6_tops_25 hf
  · refine A_aload_n C (pc := 15) 1 rfl dX6_tops_15 ?_
    refine A_iload_n C (pc := 16) 0 rfl dX6_tops_16 ?_
    obtain ⟨z17, h17, hf⟩ := bd_i hf
    refine A_callV1 C (pc := 17) (A := [.int x2]) (rest := []) k_X6_155 ky_X3_greatestOf kv_X3_greatestOf (m_X3_greatestOf l B D Y o ((of_decide_eq_true k3)) h17) (kO ((of_decide_eq_true k3))).1 (ent2 ((of_decide_eq_true k3))) rfl rfl rfl (Nat.le_of_ble_eq_true rfl) ⟨rfl, rfl, Nat.le_of_ble_eq_true rfl, Nat.le_of_ble_eq_true rfl⟩ ⟨Nat.le_of_ble_eq_true rfl, Nat.le_of_ble_eq_true rfl⟩ dX6_tops_17 ?_
    refine A_goto C (pc := 20) 25 (by decide) dX6_tops_20 ?_
    exact X_ri C (pc := 25) hr hk rfl ⟨Nat.le_of_ble_eq_true rfl, Nat.le_of_ble_eq_true rfl⟩ dX6_tops_25 hf
set_option maxRecDepth 100000 in
theorem m_X6_rowsWith (l : Launch) (hl9 : l.stackTraces = false) (B : Nat) (D : va_G) (Y : Nat → ClassId) (o : Ou) {M : Mem} {x1 : Int32} {x2 : Int32} {x3 : Int32} {r : (String ⊕ Int32) × Mem}  (hf : f_X6_rowsWith M x1 x2 x3 = some r) : XW l yX6_rowsWith cX6_rowsWith 5 (some .int) rm_X6_rowsWith 3 18 B D Y o [.ref (B + 0), .int x1, .int x2, .int x3] M tvI r := by
  refine ofAtX (L0 := [(0, .ref (B + 0)), (1, .int x1), (2, .int x2), (3, .int x3)]) (by decide +kernel) (Nat.le_of_ble_eq_true rfl) rfl (fun p e s m args below meth c C hX hr hk hout => ?_)
  dsimp only [f_X6_rowsWith] at hf
  refine A_aload_n C (pc := 0) 0 rfl dX6_rowsWith_0 ?_
  refine A_iload_n C (pc := 1) 1 rfl dX6_rowsWith_1 ?_
  refine A_iload_n C (pc := 2) 2 rfl dX6_rowsWith_2 ?_
  refine A_iload_n C (pc := 3) 3 rfl dX6_rowsWith_3 ?_
  obtain ⟨z4, h4, hf⟩ := bd_i hf
  refine X_callV C (pc := 4) hX hk hout (A := [.int x1, .int x2, .int x3]) (rest := []) kl_X6_101 ky_X6_orderWithBoth kv_X6_orderWithBoth (m_X6_orderWithBoth l hl9 B D Y o  h4) (by decide) rfl rfl rfl rfl (Nat.le_of_ble_eq_true rfl) ⟨rfl, rfl, Nat.le_of_ble_eq_true rfl, Nat.le_of_ble_eq_true rfl⟩ ⟨Nat.le_of_ble_eq_true rfl, Nat.le_of_ble_eq_true rfl⟩ ⟨Nat.le_of_ble_eq_true rfl, Nat.le_of_ble_eq_true rfl⟩ dX6_rowsWith_4 hf (fun v4 _ hf => ?_)
  obtain ⟨k4, hf⟩ := chk_i hf
  refine A_astore C (pc := 7) [(0, .ref (B + 0)), (2, .int x2), (3, .int x3), (4, .ref (B + v4))] (by decide) [1, 3, 4, 0] rfl dX6_rowsWith_7 ?_
  refine A_aload_n C (pc := 9) 0 rfl dX6_rowsWith_9 ?_
  refine A_g6_3 C (pc := 10) kf_X6_30 dX6_rowsWith_10 ?_
  refine A_aload C (pc := 13) 3 rfl dX6_rowsWith_13 ?_
  obtain ⟨z15, h15, hf⟩ := bd_i hf
  refine A_callV1 C (pc := 15) (A := [.ref (B + v4)]) (rest := []) k_X6_240 ky_X4_fill kv_X4_fill (m_X4_fill l B D Y o ((show kd 20 = 4 from rfl)) ((of_decide_eq_true k4)) h15) (kR ((show kd 20 = 4 from rfl))).1 (ent4 ((show kd 20 = 4 from rfl))) rfl rfl rfl (Nat.le_of_ble_eq_true rfl) ⟨rfl, rfl, Nat.le_of_ble_eq_true rfl, Nat.le_of_ble_eq_true rfl⟩ ⟨Nat.le_of_ble_eq_true rfl, Nat.le_of_ble_eq_true rfl⟩ dX6_rowsWith_15 ?_
  refine A_pop C (pc := 18) rfl dX6_rowsWith_18 ?_
  refine A_aload_n C (pc := 19) 0 rfl dX6_rowsWith_19 ?_
  refine A_g6_3 C (pc := 20) kf_X6_30 dX6_rowsWith_20 ?_
  refine A_aload C (pc := 23) 3 rfl dX6_rowsWith_23 ?_
  refine A_iload_n C (pc := 25) 1 rfl dX6_rowsWith_25 ?_
  refine A_iload_n C (pc := 26) 2 rfl dX6_rowsWith_26 ?_
  obtain ⟨z27, h27, hf⟩ := bd_i hf
  refine A_callV1 C (pc := 27) (A := [.ref (B + v4), .int x2, .int x3]) (rest := []) k_X6_243 ky_X4_countAhead kv_X4_countAhead (m_X4_countAhead l B D Y o ((show kd 20 = 4 from rfl)) ((of_decide_eq_true k4)) h27) (kR ((show kd 20 = 4 from rfl))).1 (ent4 ((show kd 20 = 4 from rfl))) rfl rfl rfl (Nat.le_of_ble_eq_true rfl) ⟨rfl, rfl, Nat.le_of_ble_eq_true rfl, Nat.le_of_ble_eq_true rfl⟩ ⟨Nat.le_of_ble_eq_true rfl, Nat.le_of_ble_eq_true rfl⟩ dX6_rowsWith_27 ?_
  exact X_ri C (pc := 30) hr hk rfl ⟨Nat.le_of_ble_eq_true rfl, Nat.le_of_ble_eq_true rfl⟩ dX6_rowsWith_30 hf
set_option maxRecDepth 100000 in
theorem m_X6_number (l : Launch) (hl9 : l.stackTraces = false) (B : Nat) (D : va_G) (Y : Nat → ClassId) (o : Ou) {M : Mem} {x1 : Int32} {x2 : Int32} {x3 : Int32} {r : (String ⊕ Int32) × Mem}  (hf : f_X6_number M x1 x2 x3 = some r) : XW l yX6_number cX6_number 4 (some .int) rm_X6_number 3 18 B D Y o [.ref (B + 0), .int x1, .int x2, .int x3] M tvI r := by
  refine ofAtX (L0 := [(0, .ref (B + 0)), (1, .int x1), (2, .int x2), (3, .int x3)]) (by decide +kernel) (Nat.le_of_ble_eq_true rfl) rfl (fun p e s m args below meth c C hX hr hk hout => ?_)
  dsimp only [f_X6_number] at hf
  refine A_aload_n C (pc := 0) 0 rfl dX6_number_0 ?_
  refine A_g6_4 C (pc := 1) kf_X6_37 dX6_number_1 ?_
  refine A_aload_n C (pc := 4) 0 rfl dX6_number_4 ?_
  refine A_iload_n C (pc := 5) 1 rfl dX6_number_5 ?_
  refine A_iload_n C (pc := 6) 2 rfl dX6_number_6 ?_
  refine A_iload_n C (pc := 7) 3 rfl dX6_number_7 ?_
  obtain ⟨z8, h8, hf⟩ := bd_i hf
  refine X_callV C (pc := 8) hX hk hout (A := [.int x1, .int x2, .int x3]) (rest := [.ref (B + 24)]) kl_X6_101 ky_X6_orderWithBoth kv_X6_orderWithBoth (m_X6_orderWithBoth l hl9 B D Y o  h8) (by decide) rfl rfl rfl rfl (Nat.le_of_ble_eq_true rfl) ⟨rfl, rfl, Nat.le_of_ble_eq_true rfl, Nat.le_of_ble_eq_true rfl⟩ ⟨Nat.le_of_ble_eq_true rfl, Nat.le_of_ble_eq_true rfl⟩ ⟨Nat.le_of_ble_eq_true rfl, Nat.le_of_ble_eq_true rfl⟩ dX6_number_8 hf (fun v8 _ hf => ?_)
  obtain ⟨k8, hf⟩ := chk_i hf
  refine A_iload_n C (pc := 11) 2 rfl dX6_number_11 ?_
  refine A_iload_n C (pc := 12) 3 rfl dX6_number_12 ?_
  obtain ⟨z13, h13, hf⟩ := bd_i hf
  refine A_callV1 C (pc := 13) (A := [.ref (B + v8), .int x2, .int x3]) (rest := []) k_X6_258 ky_X2_between kv_X2_between (m_X2_between l B D Y o ((show kd 24 = 5 from rfl)) ((of_decide_eq_true k8)) h13) (kN ((show kd 24 = 5 from rfl))).1 (ent5 ((show kd 24 = 5 from rfl))) rfl rfl rfl (Nat.le_of_ble_eq_true rfl) ⟨rfl, rfl, Nat.le_of_ble_eq_true rfl, Nat.le_of_ble_eq_true rfl⟩ ⟨Nat.le_of_ble_eq_true rfl, Nat.le_of_ble_eq_true rfl⟩ dX6_number_13 ?_
  exact X_ri C (pc := 16) hr hk rfl ⟨Nat.le_of_ble_eq_true rfl, Nat.le_of_ble_eq_true rfl⟩ dX6_number_16 hf
set_option maxRecDepth 100000 in
theorem m_X6_share (l : Launch) (hl9 : l.stackTraces = false) (B : Nat) (D : va_G) (Y : Nat → ClassId) (o : Ou) {M : Mem} {x1 : Int32} {x2 : Int32} {x3 : Int32} {r : (String ⊕ UInt32) × Mem}  (hf : f_X6_share M x1 x2 x3 = some r) : XW l yX6_share cX6_share 6 (some .float) rm_X6_share 3 18 B D Y o [.ref (B + 0), .int x1, .int x2, .int x3] M tvF r := by
  refine ofAtX (L0 := [(0, .ref (B + 0)), (1, .int x1), (2, .int x2), (3, .int x3)]) (by decide +kernel) (Nat.le_of_ble_eq_true rfl) rfl (fun p e s m args below meth c C hX hr hk hout => ?_)
  dsimp only [f_X6_share] at hf
  refine A_aload_n C (pc := 0) 0 rfl dX6_share_0 ?_
  refine A_iload_n C (pc := 1) 1 rfl dX6_share_1 ?_
  refine A_iload_n C (pc := 2) 2 rfl dX6_share_2 ?_
  refine A_iload_n C (pc := 3) 3 rfl dX6_share_3 ?_
  obtain ⟨z4, h4, hf⟩ := bd_i hf
  refine X_callV C (pc := 4) hX hk hout (A := [.int x1, .int x2, .int x3]) (rest := []) kl_X6_101 ky_X6_orderWithBoth kv_X6_orderWithBoth (m_X6_orderWithBoth l hl9 B D Y o  h4) (by decide) rfl rfl rfl rfl (Nat.le_of_ble_eq_true rfl) ⟨rfl, rfl, Nat.le_of_ble_eq_true rfl, Nat.le_of_ble_eq_true rfl⟩ ⟨Nat.le_of_ble_eq_true rfl, Nat.le_of_ble_eq_true rfl⟩ ⟨Nat.le_of_ble_eq_true rfl, Nat.le_of_ble_eq_true rfl⟩ dX6_share_4 hf (fun v4 _ hf => ?_)
  obtain ⟨k4, hf⟩ := chk_i hf
  refine A_astore C (pc := 7) [(0, .ref (B + 0)), (2, .int x2), (3, .int x3), (4, .ref (B + v4))] (by decide) [1, 3, 4, 0] rfl dX6_share_7 ?_
  refine A_aload_n C (pc := 9) 0 rfl dX6_share_9 ?_
  refine A_g6_3 C (pc := 10) kf_X6_30 dX6_share_10 ?_
  refine A_aload C (pc := 13) 3 rfl dX6_share_13 ?_
  obtain ⟨z15, h15, hf⟩ := bd_i hf
  refine A_callV1 C (pc := 15) (A := [.ref (B + v4)]) (rest := []) k_X6_240 ky_X4_fill kv_X4_fill (m_X4_fill l B D Y o ((show kd 20 = 4 from rfl)) ((of_decide_eq_true k4)) h15) (kR ((show kd 20 = 4 from rfl))).1 (ent4 ((show kd 20 = 4 from rfl))) rfl rfl rfl (Nat.le_of_ble_eq_true rfl) ⟨rfl, rfl, Nat.le_of_ble_eq_true rfl, Nat.le_of_ble_eq_true rfl⟩ ⟨Nat.le_of_ble_eq_true rfl, Nat.le_of_ble_eq_true rfl⟩ dX6_share_15 ?_
  obtain ⟨z18, h18, hf⟩ := bd_i hf
  refine A_callS1 C (pc := 18) (A := [.int z15.1]) (rest := []) k_X6_249 ky_X6_atLeastOne ks_X6_atLeastOne (m_X6_atLeastOne l B D Y o  h18) rfl rfl (Nat.le_of_ble_eq_true rfl) ⟨rfl, rfl, Nat.le_of_ble_eq_true rfl, Nat.le_of_ble_eq_true rfl⟩ ⟨Nat.le_of_ble_eq_true rfl, Nat.le_of_ble_eq_true rfl⟩ dX6_share_18 ?_
  refine A_istore C (pc := 21) [(0, .ref (B + 0)), (2, .int x2), (3, .int x3), (4, .ref (B + v4)), (5, .int z18)] (by decide) [1, 2, 3, 4, 0] rfl dX6_share_21 ?_
  refine A_aload_n C (pc := 23) 0 rfl dX6_share_23 ?_
  refine A_g6_3 C (pc := 24) kf_X6_30 dX6_share_24 ?_
  refine A_aload C (pc := 27) 3 rfl dX6_share_27 ?_
  refine A_iload_n C (pc := 29) 1 rfl dX6_share_29 ?_
  refine A_iload_n C (pc := 30) 2 rfl dX6_share_30 ?_
  obtain ⟨z31, h31, hf⟩ := bd_i hf
  refine A_callV1 C (pc := 31) (A := [.ref (B + v4), .int x2, .int x3]) (rest := []) k_X6_243 ky_X4_countAhead kv_X4_countAhead (m_X4_countAhead l B D Y o ((show kd 20 = 4 from rfl)) ((of_decide_eq_true k4)) h31) (kR ((show kd 20 = 4 from rfl))).1 (ent4 ((show kd 20 = 4 from rfl))) rfl rfl rfl (Nat.le_of_ble_eq_true rfl) ⟨rfl, rfl, Nat.le_of_ble_eq_true rfl, Nat.le_of_ble_eq_true rfl⟩ ⟨Nat.le_of_ble_eq_true rfl, Nat.le_of_ble_eq_true rfl⟩ dX6_share_31 ?_
  refine A_i2f C (pc := 34) dX6_share_34 ?_
  refine A_iload C (pc := 35) 4 rfl dX6_share_35 ?_
  refine A_i2f C (pc := 37) dX6_share_37 ?_
  obtain ⟨c38, hf⟩ := chk_i hf
  refine A_fdiv C (pc := 38) (nn32_i c38) dX6_share_38 ?_
  exact X_rf C (pc := 39) hr hk ⟨Nat.le_of_ble_eq_true rfl, Nat.le_of_ble_eq_true rfl⟩ dX6_share_39 hf
set_option maxRecDepth 100000 in
theorem m_X6_copy (l : Launch) (hl9 : l.stackTraces = false) (B : Nat) (D : va_G) (Y : Nat → ClassId) (o : Ou) {M : Mem} {x1 : Int32} {x2 : Int32} {r : (String ⊕ Int32) × Mem}  (hf : f_X6_copy M x1 x2 = some r) : XW l yX6_copy cX6_copy 5 (some .int) rm_X6_copy 2 12 B D Y o [.ref (B + 0), .int x1, .int x2] M tvI r := by
  refine ofAtX (L0 := [(0, .ref (B + 0)), (1, .int x1), (2, .int x2)]) (by decide +kernel) (Nat.le_of_ble_eq_true rfl) rfl (fun p e s m args below meth c C hX hr hk hout => ?_)
  dsimp only [f_X6_copy] at hf
  refine A_aload_n C (pc := 0) 0 rfl dX6_copy_0 ?_
  refine A_iload_n C (pc := 1) 1 rfl dX6_copy_1 ?_
  obtain ⟨z2, h2, hf⟩ := bd_i hf
  refine X_callV C (pc := 2) hX hk hout (A := [.int x1]) (rest := []) kl_X6_48 ky_X6_orderAt kv_X6_orderAt (m_X6_orderAt l hl9 B D Y o  h2) (by decide) rfl rfl rfl rfl (Nat.le_of_ble_eq_true rfl) ⟨rfl, rfl, Nat.le_of_ble_eq_true rfl, Nat.le_of_ble_eq_true rfl⟩ ⟨Nat.le_of_ble_eq_true rfl, Nat.le_of_ble_eq_true rfl⟩ ⟨Nat.le_of_ble_eq_true rfl, Nat.le_of_ble_eq_true rfl⟩ dX6_copy_2 hf (fun v2 _ hf => ?_)
  obtain ⟨k2, hf⟩ := chk_i hf
  refine A_astore_n C (pc := 5) [(0, .ref (B + 0)), (2, .int x2), (3, .ref (B + v2))] rfl (by decide) [1, 3, 0] rfl dX6_copy_5 ?_
  refine A_aload_n C (pc := 6) 0 rfl dX6_copy_6 ?_
  refine A_iload_n C (pc := 7) 1 rfl dX6_copy_7 ?_
  obtain ⟨z8, h8, hf⟩ := bd_i hf
  refine X_callV C (pc := 8) hX hk hout (A := [.int x2]) (rest := []) kl_X6_48 ky_X6_orderAt kv_X6_orderAt (m_X6_orderAt l hl9 B D Y o  h8) (by decide) rfl rfl rfl rfl (Nat.le_of_ble_eq_true rfl) ⟨rfl, rfl, Nat.le_of_ble_eq_true rfl, Nat.le_of_ble_eq_true rfl⟩ ⟨Nat.le_of_ble_eq_true rfl, Nat.le_of_ble_eq_true rfl⟩ ⟨Nat.le_of_ble_eq_true rfl, Nat.le_of_ble_eq_true rfl⟩ dX6_copy_8 hf (fun v8 _ hf => ?_)
  obtain ⟨k8, hf⟩ := chk_i hf
  refine A_astore C (pc := 11) [(3, .ref (B + v2)), (4, .ref (B + v8))] (by decide) [3, 0] rfl dX6_copy_11 ?_
  refine A_aload C (pc := 13) 1 rfl dX6_copy_13 ?_
  refine A_aload_n C (pc := 15) 0 rfl dX6_copy_15 ?_
  obtain ⟨z16, h16, hf⟩ := bd_i hf
  refine A_callV0 C (pc := 16) (A := [.ref (B + v2)]) (rest := []) k_X6_132 ky_X3_become kv_X3_become (m_X3_become l B D Y o ((of_decide_eq_true k8)) ((of_decide_eq_true k2)) h16) (kO ((of_decide_eq_true k8))).1 (ent2 ((of_decide_eq_true k8))) rfl rfl rfl (Nat.le_of_ble_eq_true rfl) ⟨rfl, rfl, Nat.le_of_ble_eq_true rfl, Nat.le_of_ble_eq_true rfl⟩ ⟨Nat.le_of_ble_eq_true rfl, Nat.le_of_ble_eq_true rfl⟩ dX6_copy_16 ?_
  refine A_aload C (pc := 19) 1 rfl dX6_copy_19 ?_
  refine A_g3_0 C (pc := 21) ((of_decide_eq_true k8)) kf_X6_56 dX6_copy_21 ?_
  exact X_ri C (pc := 24) hr hk rfl ⟨Nat.le_of_ble_eq_true rfl, Nat.le_of_ble_eq_true rfl⟩ dX6_copy_24 hf
set_option maxRecDepth 100000 in
theorem m_X6_sign (l : Launch) (hl9 : l.stackTraces = false) (B : Nat) (D : va_G) (Y : Nat → ClassId) (o : Ou) {M : Mem} {x1 : Int32} {x2 : Int32} {x3 : Int32} {r : (String ⊕ Int32) × Mem}  (hf : f_X6_sign M x1 x2 x3 = some r) : XW l yX6_sign cX6_sign 5 (some .char) rm_X6_sign 3 18 B D Y o [.ref (B + 0), .int x1, .int x2, .int x3] M tvI r := by
  refine ofAtX (L0 := [(0, .ref (B + 0)), (1, .int x1), (2, .int x2), (3, .int x3)]) (by decide +kernel) (Nat.le_of_ble_eq_true rfl) rfl (fun p e s m args below meth c C hX hr hk hout => ?_)
  dsimp only [f_X6_sign] at hf
  refine A_aload_n C (pc := 0) 0 rfl dX6_sign_0 ?_
  refine A_iload_n C (pc := 1) 1 rfl dX6_sign_1 ?_
  refine A_iload_n C (pc := 2) 2 rfl dX6_sign_2 ?_
  refine A_iload_n C (pc := 3) 3 rfl dX6_sign_3 ?_
  obtain ⟨z4, h4, hf⟩ := bd_i hf
  refine X_callV C (pc := 4) hX hk hout (A := [.int x1, .int x2, .int x3]) (rest := []) kl_X6_101 ky_X6_orderWithBoth kv_X6_orderWithBoth (m_X6_orderWithBoth l hl9 B D Y o  h4) (by decide) rfl rfl rfl rfl (Nat.le_of_ble_eq_true rfl) ⟨rfl, rfl, Nat.le_of_ble_eq_true rfl, Nat.le_of_ble_eq_true rfl⟩ ⟨Nat.le_of_ble_eq_true rfl, Nat.le_of_ble_eq_true rfl⟩ ⟨Nat.le_of_ble_eq_true rfl, Nat.le_of_ble_eq_true rfl⟩ dX6_sign_4 hf (fun v4 _ hf => ?_)
  obtain ⟨k4, hf⟩ := chk_i hf
  refine A_astore C (pc := 7) [(2, .int x2), (3, .int x3), (4, .ref (B + v4))] (by decide) [3, 4, 0] rfl dX6_sign_7 ?_
  refine A_iload_n C (pc := 9) 0 rfl dX6_sign_9 ?_
  refine A_iload_n C (pc := 10) 1 rfl dX6_sign_10 ?_
  refine A_icmp_ne C (pc := 11) 17 (by decide) dX6_sign_11 hf (fun _ hf => ?_) (fun _ hf => ?_)
  · refine A_aload C (pc := 17) 2 rfl dX6_sign_17 ?_
    refine A_iload_n C (pc := 19) 0 rfl dX6_sign_19 ?_
    refine A_iload_n C (pc := 20) 1 rfl dX6_sign_20 ?_
    obtain ⟨z21, h21, hf⟩ := bd_i hf
    refine A_callV1 C (pc := 21) (A := [.int x2, .int x3]) (rest := []) k_X6_146 ky_X3_isBelow kv_X3_isBelow (m_X3_isBelow l B D Y o ((of_decide_eq_true k4)) h21) (kO ((of_decide_eq_true k4))).1 (ent2 ((of_decide_eq_true k4))) rfl rfl rfl (Nat.le_of_ble_eq_true rfl) ⟨rfl, rfl, Nat.le_of_ble_eq_true rfl, Nat.le_of_ble_eq_true rfl⟩ ⟨Nat.le_of_ble_eq_true rfl, Nat.le_of_ble_eq_true rfl⟩ dX6_sign_21 ?_
    refine A_if_eq C (pc := 24) 30 (by decide) dX6_sign_24 hf (fun _ hf => ?_) (fun _ hf => ?_)
    · refine A_aload C (pc := 30) 2 rfl dX6_sign_30 ?_
      refine A_iload_n C (pc := 32) 1 rfl dX6_sign_32 ?_
      refine A_iload_n C (pc := 33) 0 rfl dX6_sign_33 ?_
      obtain ⟨z34, h34, hf⟩ := bd_i hf
      refine A_callV1 C (pc := 34) (A := [.int x3, .int x2]) (rest := []) k_X6_146 ky_X3_isBelow kv_X3_isBelow (m_X3_isBelow l B D Y o ((of_decide_eq_true k4)) h34) (kO ((of_decide_eq_true k4))).1 (ent2 ((of_decide_eq_true k4))) rfl rfl rfl (Nat.le_of_ble_eq_true rfl) ⟨rfl, rfl, Nat.le_of_ble_eq_true rfl, Nat.le_of_ble_eq_true rfl⟩ ⟨Nat.le_of_ble_eq_true rfl, Nat.le_of_ble_eq_true rfl⟩ dX6_sign_34 ?_
      refine A_if_eq C (pc := 37) 45 (by decide) dX6_sign_37 hf (fun _ hf => ?_) (fun _ hf => ?_)
      · refine A_bipush C (pc := 45) bc_124 dX6_sign_45 ?_
        exact X_ri C (pc := 47) hr hk (by decide +kernel) ⟨Nat.le_of_ble_eq_true rfl, Nat.le_of_ble_eq_true rfl⟩ dX6_sign_47 hf
      · refine A_bipush C (pc := 40) bc_62 dX6_sign_40 ?_
        refine A_goto C (pc := 42) 47 (by decide) dX6_sign_42 ?_
        exact X_ri C (pc := 47) hr hk (by decide +kernel) ⟨Nat.le_of_ble_eq_true rfl, Nat.le_of_ble_eq_true rfl⟩ dX6_sign_47 hf
    · refine A_bipush C (pc := 27) bc_60 dX6_sign_27 ?_
      exact X_ri C (pc := 29) hr hk (by decide +kernel) ⟨Nat.le_of_ble_eq_true rfl, Nat.le_of_ble_eq_true rfl⟩ dX6_sign_29 hf
  · refine A_bipush C (pc := 14) bc_61 dX6_sign_14 ?_
    exact X_ri C (pc := 16) hr hk (by decide +kernel) ⟨Nat.le_of_ble_eq_true rfl, Nat.le_of_ble_eq_true rfl⟩ dX6_sign_16 hf
set_option maxRecDepth 100000 in
theorem m_X6_meet (l : Launch) (hl9 : l.stackTraces = false) (B : Nat) (D : va_G) (Y : Nat → ClassId) (o : Ou) {M : Mem} {x1 : Int32} {x2 : Int32} {x3 : Int32} {r : (String ⊕ Int32) × Mem}  (hf : f_X6_meet M x1 x2 x3 = some r) : XW l yX6_meet cX6_meet 7 (some .int) rm_X6_meet 3 18 B D Y o [.ref (B + 0), .int x1, .int x2, .int x3] M tvI r := by
  refine ofAtX (L0 := [(0, .ref (B + 0)), (1, .int x1), (2, .int x2), (3, .int x3)]) (by decide +kernel) (Nat.le_of_ble_eq_true rfl) rfl (fun p e s m args below meth c C hX hr hk hout => ?_)
  dsimp only [f_X6_meet] at hf
  refine A_aload_n C (pc := 0) 0 rfl dX6_meet_0 ?_
  refine A_iload_n C (pc := 1) 1 rfl dX6_meet_1 ?_
  obtain ⟨z2, h2, hf⟩ := bd_i hf
  refine X_callV C (pc := 2) hX hk hout (A := [.int x1]) (rest := []) kl_X6_48 ky_X6_orderAt kv_X6_orderAt (m_X6_orderAt l hl9 B D Y o  h2) (by decide) rfl rfl rfl rfl (Nat.le_of_ble_eq_true rfl) ⟨rfl, rfl, Nat.le_of_ble_eq_true rfl, Nat.le_of_ble_eq_true rfl⟩ ⟨Nat.le_of_ble_eq_true rfl, Nat.le_of_ble_eq_true rfl⟩ ⟨Nat.le_of_ble_eq_true rfl, Nat.le_of_ble_eq_true rfl⟩ dX6_meet_2 hf (fun v2 _ hf => ?_)
  obtain ⟨k2, hf⟩ := chk_i hf
  refine A_astore C (pc := 5) [(0, .ref (B + 0)), (2, .int x2), (3, .int x3), (4, .ref (B + v2))] (by decide) [1, 3, 4, 0] rfl dX6_meet_5 ?_
  refine A_aload_n C (pc := 7) 0 rfl dX6_meet_7 ?_
  refine A_iload_n C (pc := 8) 1 rfl dX6_meet_8 ?_
  obtain ⟨z9, h9, hf⟩ := bd_i hf
  refine X_callV C (pc := 9) hX hk hout (A := [.int x2]) (rest := []) kl_X6_48 ky_X6_orderAt kv_X6_orderAt (m_X6_orderAt l hl9 B D Y o  h9) (by decide) rfl rfl rfl rfl (Nat.le_of_ble_eq_true rfl) ⟨rfl, rfl, Nat.le_of_ble_eq_true rfl, Nat.le_of_ble_eq_true rfl⟩ ⟨Nat.le_of_ble_eq_true rfl, Nat.le_of_ble_eq_true rfl⟩ ⟨Nat.le_of_ble_eq_true rfl, Nat.le_of_ble_eq_true rfl⟩ dX6_meet_9 hf (fun v9 _ hf => ?_)
  obtain ⟨k9, hf⟩ := chk_i hf
  refine A_astore C (pc := 12) [(0, .ref (B + 0)), (3, .int x3), (4, .ref (B + v2)), (5, .ref (B + v9))] (by decide) [1, 3, 4, 0] rfl dX6_meet_12 ?_
  refine A_aload_n C (pc := 14) 0 rfl dX6_meet_14 ?_
  refine A_iload_n C (pc := 15) 1 rfl dX6_meet_15 ?_
  obtain ⟨z16, h16, hf⟩ := bd_i hf
  refine X_callV C (pc := 16) hX hk hout (A := [.int x3]) (rest := []) kl_X6_48 ky_X6_orderAt kv_X6_orderAt (m_X6_orderAt l hl9 B D Y o  h16) (by decide) rfl rfl rfl rfl (Nat.le_of_ble_eq_true rfl) ⟨rfl, rfl, Nat.le_of_ble_eq_true rfl, Nat.le_of_ble_eq_true rfl⟩ ⟨Nat.le_of_ble_eq_true rfl, Nat.le_of_ble_eq_true rfl⟩ ⟨Nat.le_of_ble_eq_true rfl, Nat.le_of_ble_eq_true rfl⟩ dX6_meet_16 hf (fun v16 _ hf => ?_)
  obtain ⟨k16, hf⟩ := chk_i hf
  refine A_astore C (pc := 19) [(0, .ref (B + 0)), (4, .ref (B + v2)), (5, .ref (B + v9)), (6, .ref (B + v16))] (by decide) [1, 3, 4, 0] rfl dX6_meet_19 ?_
  refine A_aload C (pc := 21) 1 rfl dX6_meet_21 ?_
  refine A_g3_0 C (pc := 23) ((of_decide_eq_true k2)) kf_X6_56 dX6_meet_23 ?_
  refine A_aload C (pc := 26) 2 rfl dX6_meet_26 ?_
  refine A_g3_0 C (pc := 28) ((of_decide_eq_true k9)) kf_X6_56 dX6_meet_28 ?_
  refine A_icmp_eq C (pc := 31) 37 (by decide) dX6_meet_31 hf (fun _ hf => ?_) (fun _ hf => ?_)
  · refine A_aload_n C (pc := 37) 0 rfl dX6_meet_37 ?_
    refine A_g6_1 C (pc := 38) kf_X6_16 dX6_meet_38 ?_
    refine A_aload C (pc := 41) 1 rfl dX6_meet_41 ?_
    refine A_aload C (pc := 43) 2 rfl dX6_meet_43 ?_
    obtain ⟨z45, h45, hf⟩ := bd_i hf
    refine A_callV0 C (pc := 45) (A := [.ref (B + v2), .ref (B + v9)]) (rest := []) k_X6_139 ky_X3_becomeCommon kv_X3_becomeCommon (m_X3_becomeCommon l B D Y o ((show kd 14 = 2 from rfl)) ((of_decide_eq_true k2)) ((of_decide_eq_true k9)) h45) (kO ((show kd 14 = 2 from rfl))).1 (ent2 ((show kd 14 = 2 from rfl))) rfl rfl rfl (Nat.le_of_ble_eq_true rfl) ⟨rfl, rfl, Nat.le_of_ble_eq_true rfl, Nat.le_of_ble_eq_true rfl⟩ ⟨Nat.le_of_ble_eq_true rfl, Nat.le_of_ble_eq_true rfl⟩ dX6_meet_45 ?_
    refine A_aload C (pc := 48) 3 rfl dX6_meet_48 ?_
    refine A_aload_n C (pc := 50) 0 rfl dX6_meet_50 ?_
    refine A_g6_1 C (pc := 51) kf_X6_16 dX6_meet_51 ?_
    obtain ⟨z54, h54, hf⟩ := bd_i hf
    refine A_callV0 C (pc := 54) (A := [.ref (B + 14)]) (rest := []) k_X6_132 ky_X3_become kv_X3_become (m_X3_become l B D Y o ((of_decide_eq_true k16)) ((show kd 14 = 2 from rfl)) h54) (kO ((of_decide_eq_true k16))).1 (ent2 ((of_decide_eq_true k16))) rfl rfl rfl (Nat.le_of_ble_eq_true rfl) ⟨rfl, rfl, Nat.le_of_ble_eq_true rfl, Nat.le_of_ble_eq_true rfl⟩ ⟨Nat.le_of_ble_eq_true rfl, Nat.le_of_ble_eq_true rfl⟩ dX6_meet_54 ?_
    refine A_aload C (pc := 57) 3 rfl dX6_meet_57 ?_
    obtain ⟨z59, h59, hf⟩ := bd_i hf
    refine A_callV1 C (pc := 59) (A := []) (rest := []) k_X6_66 ky_X3_pairCount kv_X3_pairCount (m_X3_pairCount l B D Y o ((of_decide_eq_true k16)) h59) (kO ((of_decide_eq_true k16))).1 (ent2 ((of_decide_eq_true k16))) rfl rfl rfl (Nat.le_of_ble_eq_true rfl) ⟨rfl, rfl, Nat.le_of_ble_eq_true rfl, Nat.le_of_ble_eq_true rfl⟩ ⟨Nat.le_of_ble_eq_true rfl, Nat.le_of_ble_eq_true rfl⟩ dX6_meet_59 ?_
    exact X_ri C (pc := 62) hr hk rfl ⟨Nat.le_of_ble_eq_true rfl, Nat.le_of_ble_eq_true rfl⟩ dX6_meet_62 hf
  · refine A_bipush C (pc := 34) bc_m9 dX6_meet_34 ?_
    exact X_ri C (pc := 36) hr hk rfl ⟨Nat.le_of_ble_eq_true rfl, Nat.le_of_ble_eq_true rfl⟩ dX6_meet_36 hf
set_option maxRecDepth 100000 in
theorem m_X6_shared (l : Launch) (hl9 : l.stackTraces = false) (B : Nat) (D : va_G) (Y : Nat → ClassId) (o : Ou) {M : Mem} {x1 : Int32} {x2 : Int32} {r : (String ⊕ Int32) × Mem}  (hf : f_X6_shared M x1 x2 = some r) : XW l yX6_shared cX6_shared 5 (some .int) rm_X6_shared 2 12 B D Y o [.ref (B + 0), .int x1, .int x2] M tvI r := by
  refine ofAtX (L0 := [(0, .ref (B + 0)), (1, .int x1), (2, .int x2)]) (by decide +kernel) (Nat.le_of_ble_eq_true rfl) rfl (fun p e s m args below meth c C hX hr hk hout => ?_)
  dsimp only [f_X6_shared] at hf
  refine A_aload_n C (pc := 0) 0 rfl dX6_shared_0 ?_
  refine A_iload_n C (pc := 1) 1 rfl dX6_shared_1 ?_
  obtain ⟨z2, h2, hf⟩ := bd_i hf
  refine X_callV C (pc := 2) hX hk hout (A := [.int x1]) (rest := []) kl_X6_48 ky_X6_orderAt kv_X6_orderAt (m_X6_orderAt l hl9 B D Y o  h2) (by decide) rfl rfl rfl rfl (Nat.le_of_ble_eq_true rfl) ⟨rfl, rfl, Nat.le_of_ble_eq_true rfl, Nat.le_of_ble_eq_true rfl⟩ ⟨Nat.le_of_ble_eq_true rfl, Nat.le_of_ble_eq_true rfl⟩ ⟨Nat.le_of_ble_eq_true rfl, Nat.le_of_ble_eq_true rfl⟩ dX6_shared_2 hf (fun v2 _ hf => ?_)
  obtain ⟨k2, hf⟩ := chk_i hf
  refine A_astore_n C (pc := 5) [(0, .ref (B + 0)), (2, .int x2), (3, .ref (B + v2))] rfl (by decide) [1, 3, 0] rfl dX6_shared_5 ?_
  refine A_aload_n C (pc := 6) 0 rfl dX6_shared_6 ?_
  refine A_iload_n C (pc := 7) 1 rfl dX6_shared_7 ?_
  obtain ⟨z8, h8, hf⟩ := bd_i hf
  refine X_callV C (pc := 8) hX hk hout (A := [.int x2]) (rest := []) kl_X6_48 ky_X6_orderAt kv_X6_orderAt (m_X6_orderAt l hl9 B D Y o  h8) (by decide) rfl rfl rfl rfl (Nat.le_of_ble_eq_true rfl) ⟨rfl, rfl, Nat.le_of_ble_eq_true rfl, Nat.le_of_ble_eq_true rfl⟩ ⟨Nat.le_of_ble_eq_true rfl, Nat.le_of_ble_eq_true rfl⟩ ⟨Nat.le_of_ble_eq_true rfl, Nat.le_of_ble_eq_true rfl⟩ dX6_shared_8 hf (fun v8 _ hf => ?_)
  obtain ⟨k8, hf⟩ := chk_i hf
  refine A_astore C (pc := 11) [(3, .ref (B + v2)), (4, .ref (B + v8))] (by decide) [3, 0] rfl dX6_shared_11 ?_
  refine A_aload_n C (pc := 13) 0 rfl dX6_shared_13 ?_
  refine A_g3_0 C (pc := 14) ((of_decide_eq_true k2)) kf_X6_56 dX6_shared_14 ?_
  refine A_aload C (pc := 17) 1 rfl dX6_shared_17 ?_
  refine A_g3_0 C (pc := 19) ((of_decide_eq_true k8)) kf_X6_56 dX6_shared_19 ?_
  refine A_icmp_ne C (pc := 22) 34 (by decide) dX6_shared_22 hf (fun _ hf => ?_) (fun _ hf => ?_)
  · refine A_bipush C (pc := 34) bc_m9 dX6_shared_34 ?_
    exact X_ri C (pc := 36) hr hk rfl ⟨Nat.le_of_ble_eq_true rfl, Nat.le_of_ble_eq_true rfl⟩ dX6_shared_36 hf
  · refine A_aload_n C (pc := 25) 0 rfl dX6_shared_25 ?_
    refine A_aload C (pc := 26) 1 rfl dX6_shared_26 ?_
    obtain ⟨z28, h28, hf⟩ := bd_i hf
    refine A_callS1 C (pc := 28) (A := [.ref (B + v2), .ref (B + v8)]) (rest := []) k_X6_227 ky_X1_countShared ks_X1_countShared (m_X1_countShared l B D Y o ((of_decide_eq_true k2)) ((of_decide_eq_true k8)) h28) rfl rfl (Nat.le_of_ble_eq_true rfl) ⟨rfl, rfl, Nat.le_of_ble_eq_true rfl, Nat.le_of_ble_eq_true rfl⟩ ⟨Nat.le_of_ble_eq_true rfl, Nat.le_of_ble_eq_true rfl⟩ dX6_shared_28 ?_
    refine A_goto C (pc := 31) 36 (by decide) dX6_shared_31 ?_
    exact X_ri C (pc := 36) hr hk rfl ⟨Nat.le_of_ble_eq_true rfl, Nat.le_of_ble_eq_true rfl⟩ dX6_shared_36 hf
set_option maxRecDepth 100000 in
theorem m_X6_placeOf (l : Launch) (hl9 : l.stackTraces = false) (B : Nat) (D : va_G) (Y : Nat → ClassId) (o : Ou) {M : Mem} {x1 : Int32} {x2 : Int32} {r : (String ⊕ Int32) × Mem}  (hf : f_X6_placeOf M x1 x2 = some r) : XW l yX6_placeOf cX6_placeOf 4 (some .int) rm_X6_placeOf 2 12 B D Y o [.ref (B + 0), .int x1, .int x2] M tvI r := by
  refine ofAtX (L0 := [(0, .ref (B + 0)), (1, .int x1), (2, .int x2)]) (by decide +kernel) (Nat.le_of_ble_eq_true rfl) rfl (fun p e s m args below meth c C hX hr hk hout => ?_)
  dsimp only [f_X6_placeOf] at hf
  refine A_aload_n C (pc := 0) 0 rfl dX6_placeOf_0 ?_
  refine A_iload_n C (pc := 1) 1 rfl dX6_placeOf_1 ?_
  refine A_iload_n C (pc := 2) 2 rfl dX6_placeOf_2 ?_
  obtain ⟨z3, h3, hf⟩ := bd_i hf
  refine X_callV C (pc := 3) hX hk hout (A := [.int x1, .int x2]) (rest := []) kl_X6_98 ky_X6_orderWithSet kv_X6_orderWithSet (m_X6_orderWithSet l hl9 B D Y o  h3) (by decide) rfl rfl rfl rfl (Nat.le_of_ble_eq_true rfl) ⟨rfl, rfl, Nat.le_of_ble_eq_true rfl, Nat.le_of_ble_eq_true rfl⟩ ⟨Nat.le_of_ble_eq_true rfl, Nat.le_of_ble_eq_true rfl⟩ ⟨Nat.le_of_ble_eq_true rfl, Nat.le_of_ble_eq_true rfl⟩ dX6_placeOf_3 hf (fun v3 _ hf => ?_)
  obtain ⟨k3, hf⟩ := chk_i hf
  refine A_astore_n C (pc := 6) [(2, .int x2), (3, .ref (B + v3))] rfl (by decide) [3, 0] rfl dX6_placeOf_6 ?_
  refine A_aload_n C (pc := 7) 1 rfl dX6_placeOf_7 ?_
  refine A_iload_n C (pc := 8) 0 rfl dX6_placeOf_8 ?_
  obtain ⟨z9, h9, hf⟩ := bd_i hf
  refine A_callV1 C (pc := 9) (A := [.int x2]) (rest := []) k_X6_204 ky_X3_isClosedBelow kv_X3_isClosedBelow (m_X3_isClosedBelow l B D Y o ((of_decide_eq_true k3)) h9) (kO ((of_decide_eq_true k3))).1 (ent2 ((of_decide_eq_true k3))) rfl rfl rfl (Nat.le_of_ble_eq_true rfl) ⟨rfl, rfl, Nat.le_of_ble_eq_true rfl, Nat.le_of_ble_eq_true rfl⟩ ⟨Nat.le_of_ble_eq_true rfl, Nat.le_of_ble_eq_true rfl⟩ dX6_placeOf_9 ?_
  refine A_if_eq C (pc := 12) 23 (by decide) dX6_placeOf_12 hf (fun _ hf => ?_) (fun _ hf => ?_)
  · refine A_iconst C (pc := 23) ic_m1 dX6_placeOf_23 ?_
    exact X_ri C (pc := 24) hr hk rfl ⟨Nat.le_of_ble_eq_true rfl, Nat.le_of_ble_eq_true rfl⟩ dX6_placeOf_24 hf
  · refine A_aload_n C (pc := 15) 1 rfl dX6_placeOf_15 ?_
    refine A_iload_n C (pc := 16) 0 rfl dX6_placeOf_16 ?_
    obtain ⟨z17, h17, hf⟩ := bd_i hf
    refine A_callS1 C (pc := 17) (A := [.ref (B + v3), .int x2]) (rest := []) k_X6_207 ky_X1_countAhead ks_X1_countAhead (m_X1_countAhead l B D Y o ((of_decide_eq_true k3)) h17) rfl rfl (Nat.le_of_ble_eq_true rfl) ⟨rfl, rfl, Nat.le_of_ble_eq_true rfl, Nat.le_of_ble_eq_true rfl⟩ ⟨Nat.le_of_ble_eq_true rfl, Nat.le_of_ble_eq_true rfl⟩ dX6_placeOf_17 ?_
    refine A_goto C (pc := 20) 24 (by decide) dX6_placeOf_20 ?_
    exact X_ri C (pc := 24) hr hk rfl ⟨Nat.le_of_ble_eq_true rfl, Nat.le_of_ble_eq_true rfl⟩ dX6_placeOf_24 hf
set_option maxRecDepth 100000 in
theorem m_X6_setValue (l : Launch) (hl9 : l.stackTraces = false) (B : Nat) (D : va_G) (Y : Nat → ClassId) (o : Ou) {M : Mem} {x1 : Int32} {x2 : Int32} {x3 : Int32} {r : (String ⊕ Int32) × Mem}  (hf : f_X6_setValue M x1 x2 x3 = some r) : XW l yX6_setValue cX6_setValue 6 (some .int) rm_X6_setValue 3 18 B D Y o [.ref (B + 0), .int x1, .int x2, .int x3] M tvI r := by
  refine ofAtX (L0 := [(0, .ref (B + 0)), (1, .int x1), (2, .int x2), (3, .int x3)]) (by decide +kernel) (Nat.le_of_ble_eq_true rfl) rfl (fun p e s m args below meth c C hX hr hk hout => ?_)
  dsimp only [f_X6_setValue] at hf
  refine A_aload_n C (pc := 0) 0 rfl dX6_setValue_0 ?_
  refine A_iload_n C (pc := 1) 1 rfl dX6_setValue_1 ?_
  refine A_iload_n C (pc := 2) 2 rfl dX6_setValue_2 ?_
  obtain ⟨z3, h3, hf⟩ := bd_i hf
  refine X_callV C (pc := 3) hX hk hout (A := [.int x1, .int x2]) (rest := []) kl_X6_84 ky_X6_orderWith kv_X6_orderWith (m_X6_orderWith l hl9 B D Y o  h3) (by decide) rfl rfl rfl rfl (Nat.le_of_ble_eq_true rfl) ⟨rfl, rfl, Nat.le_of_ble_eq_true rfl, Nat.le_of_ble_eq_true rfl⟩ ⟨Nat.le_of_ble_eq_true rfl, Nat.le_of_ble_eq_true rfl⟩ ⟨Nat.le_of_ble_eq_true rfl, Nat.le_of_ble_eq_true rfl⟩ dX6_setValue_3 hf (fun v3 _ hf => ?_)
  obtain ⟨k3, hf⟩ := chk_i hf
  refine A_astore C (pc := 6) [(2, .int x2), (3, .int x3), (4, .ref (B + v3))] (by decide) [3, 4, 0] rfl dX6_setValue_6 ?_
  refine A_iload_n C (pc := 8) 1 rfl dX6_setValue_8 ?_
  obtain ⟨z9, h9, hf⟩ := bd_i hf
  refine X_callS C (pc := 9) hX hk hout (A := [.int x3]) (rest := []) kl_X6_70 ky_X6_refuseOddValue ks_X6_refuseOddValue (m_X6_refuseOddValue l hl9 B D Y o  h9) rfl rfl (Nat.le_of_ble_eq_true rfl) ⟨rfl, rfl, Nat.le_of_ble_eq_true rfl, Nat.le_of_ble_eq_true rfl⟩ ⟨Nat.le_of_ble_eq_true rfl, Nat.le_of_ble_eq_true rfl⟩ ⟨Nat.le_of_ble_eq_true rfl, Nat.le_of_ble_eq_true rfl⟩ dX6_setValue_9 hf (fun v9 _ hf => ?_)
  refine A_aload C (pc := 12) 2 rfl dX6_setValue_12 ?_
  refine A_g3_2 C (pc := 14) ((of_decide_eq_true k3)) kf_X6_88 dX6_setValue_14 ?_
  refine A_iload_n C (pc := 17) 0 rfl dX6_setValue_17 ?_
  obtain ⟨c18, hf⟩ := chk_i hf
  refine A_iald C (pc := 18) (iO2 (of_decide_eq_true k3)) c18 dX6_setValue_18 ?_
  obtain ⟨v19, e19, hf⟩ := bd_i hf
  refine A_nmI e19 ?_
  refine A_istore C (pc := 19) [(2, .int x2), (3, .int x3), (4, .ref (B + v3)), (5, .int v19)] (by decide) [1, 2, 3, 0] rfl dX6_setValue_19 ?_
  refine A_aload C (pc := 21) 2 rfl dX6_setValue_21 ?_
  refine A_g3_2 C (pc := 23) ((of_decide_eq_true k3)) kf_X6_88 dX6_setValue_23 ?_
  refine A_iload_n C (pc := 26) 0 rfl dX6_setValue_26 ?_
  refine A_iload_n C (pc := 27) 1 rfl dX6_setValue_27 ?_
  obtain ⟨c28, hf⟩ := chk_i hf
  obtain ⟨M28, e28, hf⟩ := bd_i hf
  refine A_iast C (pc := 28) (iO2 (of_decide_eq_true k3)) c28 dX6_setValue_28 ?_
  refine A_nmM e28 ?_
  refine A_iload C (pc := 29) 3 rfl dX6_setValue_29 ?_
  exact X_ri C (pc := 31) hr hk rfl ⟨Nat.le_of_ble_eq_true rfl, Nat.le_of_ble_eq_true rfl⟩ dX6_setValue_31 hf
set_option maxRecDepth 100000 in
theorem m_X6_isSame (l : Launch) (hl9 : l.stackTraces = false) (B : Nat) (D : va_G) (Y : Nat → ClassId) (o : Ou) {M : Mem} {x1 : Int32} {x2 : Int32} {r : (String ⊕ Int32) × Mem}  (hf : f_X6_isSame M x1 x2 = some r) : XW l yX6_isSame cX6_isSame 5 (some .boolean) rm_X6_isSame 2 12 B D Y o [.ref (B + 0), .int x1, .int x2] M tvI r := by
  refine ofAtX (L0 := [(0, .ref (B + 0)), (1, .int x1), (2, .int x2)]) (by decide +kernel) (Nat.le_of_ble_eq_true rfl) rfl (fun p e s m args below meth c C hX hr hk hout => ?_)
  dsimp only [f_X6_isSame] at hf
  refine A_aload_n C (pc := 0) 0 rfl dX6_isSame_0 ?_
  refine A_iload_n C (pc := 1) 1 rfl dX6_isSame_1 ?_
  obtain ⟨z2, h2, hf⟩ := bd_i hf
  refine X_callV C (pc := 2) hX hk hout (A := [.int x1]) (rest := []) kl_X6_48 ky_X6_orderAt kv_X6_orderAt (m_X6_orderAt l hl9 B D Y o  h2) (by decide) rfl rfl rfl rfl (Nat.le_of_ble_eq_true rfl) ⟨rfl, rfl, Nat.le_of_ble_eq_true rfl, Nat.le_of_ble_eq_true rfl⟩ ⟨Nat.le_of_ble_eq_true rfl, Nat.le_of_ble_eq_true rfl⟩ ⟨Nat.le_of_ble_eq_true rfl, Nat.le_of_ble_eq_true rfl⟩ dX6_isSame_2 hf (fun v2 _ hf => ?_)
  obtain ⟨k2, hf⟩ := chk_i hf
  refine A_astore_n C (pc := 5) [(0, .ref (B + 0)), (2, .int x2), (3, .ref (B + v2))] rfl (by decide) [1, 3, 0] rfl dX6_isSame_5 ?_
  refine A_aload_n C (pc := 6) 0 rfl dX6_isSame_6 ?_
  refine A_iload_n C (pc := 7) 1 rfl dX6_isSame_7 ?_
  obtain ⟨z8, h8, hf⟩ := bd_i hf
  refine X_callV C (pc := 8) hX hk hout (A := [.int x2]) (rest := []) kl_X6_48 ky_X6_orderAt kv_X6_orderAt (m_X6_orderAt l hl9 B D Y o  h8) (by decide) rfl rfl rfl rfl (Nat.le_of_ble_eq_true rfl) ⟨rfl, rfl, Nat.le_of_ble_eq_true rfl, Nat.le_of_ble_eq_true rfl⟩ ⟨Nat.le_of_ble_eq_true rfl, Nat.le_of_ble_eq_true rfl⟩ ⟨Nat.le_of_ble_eq_true rfl, Nat.le_of_ble_eq_true rfl⟩ dX6_isSame_8 hf (fun v8 _ hf => ?_)
  obtain ⟨k8, hf⟩ := chk_i hf
  refine A_astore C (pc := 11) [(3, .ref (B + v2)), (4, .ref (B + v8))] (by decide) [3, 0] rfl dX6_isSame_11 ?_
  refine A_aload_n C (pc := 13) 0 rfl dX6_isSame_13 ?_
  refine A_aload C (pc := 14) 1 rfl dX6_isSame_14 ?_
  obtain ⟨z16, h16, hf⟩ := bd_i hf
  refine A_callV1 C (pc := 16) (A := [.ref (B + v8)]) (rest := []) k_X6_161 ky_X3_hasPairsOf kv_X3_hasPairsOf (m_X3_hasPairsOf l B D Y o ((of_decide_eq_true k2)) ((of_decide_eq_true k8)) h16) (kO ((of_decide_eq_true k2))).1 (ent2 ((of_decide_eq_true k2))) rfl rfl rfl (Nat.le_of_ble_eq_true rfl) ⟨rfl, rfl, Nat.le_of_ble_eq_true rfl, Nat.le_of_ble_eq_true rfl⟩ ⟨Nat.le_of_ble_eq_true rfl, Nat.le_of_ble_eq_true rfl⟩ dX6_isSame_16 ?_
  obtain ⟨c19, hf⟩ := chk_i hf
  exact X_ri C (pc := 19) hr hk (isb_nz c19) ⟨Nat.le_of_ble_eq_true rfl, Nat.le_of_ble_eq_true rfl⟩ dX6_isSame_19 hf
set_option maxRecDepth 100000 in
theorem m_X6_closed (l : Launch) (hl9 : l.stackTraces = false) (B : Nat) (D : va_G) (Y : Nat → ClassId) (o : Ou) {M : Mem} {x1 : Int32} {x2 : Int32} {r : (String ⊕ Int32) × Mem}  (hf : f_X6_closed M x1 x2 = some r) : XW l yX6_closed cX6_closed 3 (some .int) rm_X6_closed 2 12 B D Y o [.ref (B + 0), .int x1, .int x2] M tvI r := by
  refine ofAtX (L0 := [(0, .ref (B + 0)), (1, .int x1), (2, .int x2)]) (by decide +kernel) (Nat.le_of_ble_eq_true rfl) rfl (fun p e s m args below meth c C hX hr hk hout => ?_)
  dsimp only [f_X6_closed] at hf
  refine A_aload_n C (pc := 0) 0 rfl dX6_closed_0 ?_
  refine A_iload_n C (pc := 1) 1 rfl dX6_closed_1 ?_
  refine A_iload_n C (pc := 2) 2 rfl dX6_closed_2 ?_
  obtain ⟨z3, h3, hf⟩ := bd_i hf
  refine X_callV C (pc := 3) hX hk hout (A := [.int x1, .int x2]) (rest := []) kl_X6_98 ky_X6_orderWithSet kv_X6_orderWithSet (m_X6_orderWithSet l hl9 B D Y o  h3) (by decide) rfl rfl rfl rfl (Nat.le_of_ble_eq_true rfl) ⟨rfl, rfl, Nat.le_of_ble_eq_true rfl, Nat.le_of_ble_eq_true rfl⟩ ⟨Nat.le_of_ble_eq_true rfl, Nat.le_of_ble_eq_true rfl⟩ ⟨Nat.le_of_ble_eq_true rfl, Nat.le_of_ble_eq_true rfl⟩ dX6_closed_3 hf (fun v3 _ hf => ?_)
  obtain ⟨k3, hf⟩ := chk_i hf
  refine A_iload_n C (pc := 6) 2 rfl dX6_closed_6 ?_
  obtain ⟨z7, h7, hf⟩ := bd_i hf
  refine A_callV1 C (pc := 7) (A := [.int x2]) (rest := []) k_X6_221 ky_X3_filledUp kv_X3_filledUp (m_X3_filledUp l B D Y o ((of_decide_eq_true k3)) h7) (kO ((of_decide_eq_true k3))).1 (ent2 ((of_decide_eq_true k3))) rfl rfl rfl (Nat.le_of_ble_eq_true rfl) ⟨rfl, rfl, Nat.le_of_ble_eq_true rfl, Nat.le_of_ble_eq_true rfl⟩ ⟨Nat.le_of_ble_eq_true rfl, Nat.le_of_ble_eq_true rfl⟩ dX6_closed_7 ?_
  exact X_ri C (pc := 10) hr hk rfl ⟨Nat.le_of_ble_eq_true rfl, Nat.le_of_ble_eq_true rfl⟩ dX6_closed_10 hf
set_option maxRecDepth 100000 in
theorem m_X6_turn (l : Launch) (hl9 : l.stackTraces = false) (B : Nat) (D : va_G) (Y : Nat → ClassId) (o : Ou) {M : Mem} {x1 : Int32} {r : (String ⊕ Int32) × Mem}  (hf : f_X6_turn M x1 = some r) : XW l yX6_turn cX6_turn 3 (some .int) rm_X6_turn 1 6 B D Y o [.ref (B + 0), .int x1] M tvI r := by
  refine ofAtX (L0 := [(0, .ref (B + 0)), (1, .int x1)]) (by decide +kernel) (Nat.le_of_ble_eq_true rfl) rfl (fun p e s m args below meth c C hX hr hk hout => ?_)
  dsimp only [f_X6_turn] at hf
  refine A_aload_n C (pc := 0) 0 rfl dX6_turn_0 ?_
  refine A_iload_n C (pc := 1) 1 rfl dX6_turn_1 ?_
  obtain ⟨z2, h2, hf⟩ := bd_i hf
  refine X_callV C (pc := 2) hX hk hout (A := [.int x1]) (rest := []) kl_X6_48 ky_X6_orderAt kv_X6_orderAt (m_X6_orderAt l hl9 B D Y o  h2) (by decide) rfl rfl rfl rfl (Nat.le_of_ble_eq_true rfl) ⟨rfl, rfl, Nat.le_of_ble_eq_true rfl, Nat.le_of_ble_eq_true rfl⟩ ⟨Nat.le_of_ble_eq_true rfl, Nat.le_of_ble_eq_true rfl⟩ ⟨Nat.le_of_ble_eq_true rfl, Nat.le_of_ble_eq_true rfl⟩ dX6_turn_2 hf (fun v2 _ hf => ?_)
  obtain ⟨k2, hf⟩ := chk_i hf
  refine A_astore_n C (pc := 5) [(0, .ref (B + 0)), (2, .ref (B + v2))] rfl (by decide) [1, 0] rfl dX6_turn_5 ?_
  refine A_aload_n C (pc := 6) 0 rfl dX6_turn_6 ?_
  refine A_g6_1 C (pc := 7) kf_X6_16 dX6_turn_7 ?_
  refine A_aload_n C (pc := 10) 1 rfl dX6_turn_10 ?_
  obtain ⟨z11, h11, hf⟩ := bd_i hf
  refine A_callV0 C (pc := 11) (A := [.ref (B + v2)]) (rest := []) k_X6_128 ky_X3_becomeTurned kv_X3_becomeTurned (m_X3_becomeTurned l B D Y o ((show kd 14 = 2 from rfl)) ((of_decide_eq_true k2)) h11) (kO ((show kd 14 = 2 from rfl))).1 (ent2 ((show kd 14 = 2 from rfl))) rfl rfl rfl (Nat.le_of_ble_eq_true rfl) ⟨rfl, rfl, Nat.le_of_ble_eq_true rfl, Nat.le_of_ble_eq_true rfl⟩ ⟨Nat.le_of_ble_eq_true rfl, Nat.le_of_ble_eq_true rfl⟩ dX6_turn_11 ?_
  refine A_aload_n C (pc := 14) 1 rfl dX6_turn_14 ?_
  refine A_aload_n C (pc := 15) 0 rfl dX6_turn_15 ?_
  refine A_g6_1 C (pc := 16) kf_X6_16 dX6_turn_16 ?_
  obtain ⟨z19, h19, hf⟩ := bd_i hf
  refine A_callV0 C (pc := 19) (A := [.ref (B + 14)]) (rest := []) k_X6_132 ky_X3_become kv_X3_become (m_X3_become l B D Y o ((of_decide_eq_true k2)) ((show kd 14 = 2 from rfl)) h19) (kO ((of_decide_eq_true k2))).1 (ent2 ((of_decide_eq_true k2))) rfl rfl rfl (Nat.le_of_ble_eq_true rfl) ⟨rfl, rfl, Nat.le_of_ble_eq_true rfl, Nat.le_of_ble_eq_true rfl⟩ ⟨Nat.le_of_ble_eq_true rfl, Nat.le_of_ble_eq_true rfl⟩ dX6_turn_19 ?_
  refine A_aload_n C (pc := 22) 1 rfl dX6_turn_22 ?_
  obtain ⟨z23, h23, hf⟩ := bd_i hf
  refine A_callV1 C (pc := 23) (A := []) (rest := []) k_X6_66 ky_X3_pairCount kv_X3_pairCount (m_X3_pairCount l B D Y o ((of_decide_eq_true k2)) h23) (kO ((of_decide_eq_true k2))).1 (ent2 ((of_decide_eq_true k2))) rfl rfl rfl (Nat.le_of_ble_eq_true rfl) ⟨rfl, rfl, Nat.le_of_ble_eq_true rfl, Nat.le_of_ble_eq_true rfl⟩ ⟨Nat.le_of_ble_eq_true rfl, Nat.le_of_ble_eq_true rfl⟩ dX6_turn_23 ?_
  exact X_ri C (pc := 26) hr hk rfl ⟨Nat.le_of_ble_eq_true rfl, Nat.le_of_ble_eq_true rfl⟩ dX6_turn_26 hf
set_option maxRecDepth 100000 in
theorem m_X6_setsOf (l : Launch) (hl9 : l.stackTraces = false) (B : Nat) (D : va_G) (Y : Nat → ClassId) (o : Ou) {M : Mem} {x1 : Int32} {x2 : Int32} {r : (String ⊕ Int32) × Mem}  (hf : f_X6_setsOf M x1 x2 = some r) : XW l yX6_setsOf cX6_setsOf 3 (some .int) rm_X6_setsOf 1 6 B D Y o [.ref (B + 0), .int x1, .int x2] M tvI r := by
  refine ofAtX (L0 := [(0, .ref (B + 0)), (1, .int x1), (2, .int x2)]) (by decide +kernel) (Nat.le_of_ble_eq_true rfl) rfl (fun p e s m args below meth c C hX hr hk hout => ?_)
  dsimp only [f_X6_setsOf] at hf
  refine A_aload_n C (pc := 0) 0 rfl dX6_setsOf_0 ?_
  refine A_iload_n C (pc := 1) 1 rfl dX6_setsOf_1 ?_
  obtain ⟨z2, h2, hf⟩ := bd_i hf
  refine X_callV C (pc := 2) hX hk hout (A := [.int x1]) (rest := []) kl_X6_48 ky_X6_orderAt kv_X6_orderAt (m_X6_orderAt l hl9 B D Y o  h2) (by decide) rfl rfl rfl rfl (Nat.le_of_ble_eq_true rfl) ⟨rfl, rfl, Nat.le_of_ble_eq_true rfl, Nat.le_of_ble_eq_true rfl⟩ ⟨Nat.le_of_ble_eq_true rfl, Nat.le_of_ble_eq_true rfl⟩ ⟨Nat.le_of_ble_eq_true rfl, Nat.le_of_ble_eq_true rfl⟩ dX6_setsOf_2 hf (fun v2 _ hf => ?_)
  obtain ⟨k2, hf⟩ := chk_i hf
  refine A_iload_n C (pc := 5) 2 rfl dX6_setsOf_5 ?_
  obtain ⟨z6, h6, hf⟩ := bd_i hf
  refine A_callS1 C (pc := 6) (A := [.ref (B + v2), .int x2]) (rest := []) k_X6_193 ky_X1_countOfSize ks_X1_countOfSize (m_X1_countOfSize l B D Y o ((of_decide_eq_true k2)) h6) rfl rfl (Nat.le_of_ble_eq_true rfl) ⟨rfl, rfl, Nat.le_of_ble_eq_true rfl, Nat.le_of_ble_eq_true rfl⟩ ⟨Nat.le_of_ble_eq_true rfl, Nat.le_of_ble_eq_true rfl⟩ dX6_setsOf_6 ?_
  exact X_ri C (pc := 9) hr hk rfl ⟨Nat.le_of_ble_eq_true rfl, Nat.le_of_ble_eq_true rfl⟩ dX6_setsOf_9 hf
set_option maxRecDepth 100000 in
theorem m_X6_isApart (l : Launch) (hl9 : l.stackTraces = false) (B : Nat) (D : va_G) (Y : Nat → ClassId) (o : Ou) {M : Mem} {x1 : Int32} {x2 : Int32} {r : (String ⊕ Int32) × Mem}  (hf : f_X6_isApart M x1 x2 = some r) : XW l yX6_isApart cX6_isApart 3 (some .boolean) rm_X6_isApart 2 12 B D Y o [.ref (B + 0), .int x1, .int x2] M tvI r := by
  refine ofAtX (L0 := [(0, .ref (B + 0)), (1, .int x1), (2, .int x2)]) (by decide +kernel) (Nat.le_of_ble_eq_true rfl) rfl (fun p e s m args below meth c C hX hr hk hout => ?_)
  dsimp only [f_X6_isApart] at hf
  refine A_aload_n C (pc := 0) 0 rfl dX6_isApart_0 ?_
  refine A_iload_n C (pc := 1) 1 rfl dX6_isApart_1 ?_
  refine A_iload_n C (pc := 2) 2 rfl dX6_isApart_2 ?_
  obtain ⟨z3, h3, hf⟩ := bd_i hf
  refine X_callV C (pc := 3) hX hk hout (A := [.int x1, .int x2]) (rest := []) kl_X6_98 ky_X6_orderWithSet kv_X6_orderWithSet (m_X6_orderWithSet l hl9 B D Y o  h3) (by decide) rfl rfl rfl rfl (Nat.le_of_ble_eq_true rfl) ⟨rfl, rfl, Nat.le_of_ble_eq_true rfl, Nat.le_of_ble_eq_true rfl⟩ ⟨Nat.le_of_ble_eq_true rfl, Nat.le_of_ble_eq_true rfl⟩ ⟨Nat.le_of_ble_eq_true rfl, Nat.le_of_ble_eq_true rfl⟩ dX6_isApart_3 hf (fun v3 _ hf => ?_)
  obtain ⟨k3, hf⟩ := chk_i hf
  refine A_iload_n C (pc := 6) 2 rfl dX6_isApart_6 ?_
  obtain ⟨z7, h7, hf⟩ := bd_i hf
  refine A_callV1 C (pc := 7) (A := [.int x2]) (rest := []) k_X6_169 ky_X3_isUnordered kv_X3_isUnordered (m_X3_isUnordered l B D Y o ((of_decide_eq_true k3)) h7) (kO ((of_decide_eq_true k3))).1 (ent2 ((of_decide_eq_true k3))) rfl rfl rfl (Nat.le_of_ble_eq_true rfl) ⟨rfl, rfl, Nat.le_of_ble_eq_true rfl, Nat.le_of_ble_eq_true rfl⟩ ⟨Nat.le_of_ble_eq_true rfl, Nat.le_of_ble_eq_true rfl⟩ dX6_isApart_7 ?_
  obtain ⟨c10, hf⟩ := chk_i hf
  exact X_ri C (pc := 10) hr hk (isb_nz c10) ⟨Nat.le_of_ble_eq_true rfl, Nat.le_of_ble_eq_true rfl⟩ dX6_isApart_10 hf
set_option maxRecDepth 100000 in
theorem m_X6_drop (l : Launch) (hl9 : l.stackTraces = false) (B : Nat) (D : va_G) (Y : Nat → ClassId) (o : Ou) {M : Mem} {x1 : Int32} {x2 : Int32} {r : (String ⊕ Int32) × Mem}  (hf : f_X6_drop M x1 x2 = some r) : XW l yX6_drop cX6_drop 5 (some .int) rm_X6_drop 2 12 B D Y o [.ref (B + 0), .int x1, .int x2] M tvI r := by
  refine ofAtX (L0 := [(0, .ref (B + 0)), (1, .int x1), (2, .int x2)]) (by decide +kernel) (Nat.le_of_ble_eq_true rfl) rfl (fun p e s m args below meth c C hX hr hk hout => ?_)
  dsimp only [f_X6_drop] at hf
  refine A_aload_n C (pc := 0) 0 rfl dX6_drop_0 ?_
  refine A_iload_n C (pc := 1) 1 rfl dX6_drop_1 ?_
  refine A_iload_n C (pc := 2) 2 rfl dX6_drop_2 ?_
  obtain ⟨z3, h3, hf⟩ := bd_i hf
  refine X_callV C (pc := 3) hX hk hout (A := [.int x1, .int x2]) (rest := []) kl_X6_84 ky_X6_orderWith kv_X6_orderWith (m_X6_orderWith l hl9 B D Y o  h3) (by decide) rfl rfl rfl rfl (Nat.le_of_ble_eq_true rfl) ⟨rfl, rfl, Nat.le_of_ble_eq_true rfl, Nat.le_of_ble_eq_true rfl⟩ ⟨Nat.le_of_ble_eq_true rfl, Nat.le_of_ble_eq_true rfl⟩ ⟨Nat.le_of_ble_eq_true rfl, Nat.le_of_ble_eq_true rfl⟩ dX6_drop_3 hf (fun v3 _ hf => ?_)
  obtain ⟨k3, hf⟩ := chk_i hf
  refine A_astore_n C (pc := 6) [(2, .int x2), (3, .ref (B + v3))] rfl (by decide) [3, 0] rfl dX6_drop_6 ?_
  refine A_aload_n C (pc := 7) 1 rfl dX6_drop_7 ?_
  refine A_g3_2 C (pc := 8) ((of_decide_eq_true k3)) kf_X6_88 dX6_drop_8 ?_
  refine A_iload_n C (pc := 11) 0 rfl dX6_drop_11 ?_
  obtain ⟨c12, hf⟩ := chk_i hf
  refine A_iald C (pc := 12) (iO2 (of_decide_eq_true k3)) c12 dX6_drop_12 ?_
  obtain ⟨v13, e13, hf⟩ := bd_i hf
  refine A_nmI e13 ?_
  refine A_istore C (pc := 13) [(2, .int x2), (3, .ref (B + v3)), (4, .int v13)] (by decide) [1, 2, 0] rfl dX6_drop_13 ?_
  refine A_aload_n C (pc := 15) 1 rfl dX6_drop_15 ?_
  refine A_aload_n C (pc := 16) 1 rfl dX6_drop_16 ?_
  obtain ⟨z17, h17, hf⟩ := bd_i hf
  refine A_callV1 C (pc := 17) (A := []) (rest := [.ref (B + v3)]) k_X6_92 ky_X3_all kv_X3_all (m_X3_all l B D Y o ((of_decide_eq_true k3)) h17) (kO ((of_decide_eq_true k3))).1 (ent2 ((of_decide_eq_true k3))) rfl rfl rfl (Nat.le_of_ble_eq_true rfl) ⟨rfl, rfl, Nat.le_of_ble_eq_true rfl, Nat.le_of_ble_eq_true rfl⟩ ⟨Nat.le_of_ble_eq_true rfl, Nat.le_of_ble_eq_true rfl⟩ dX6_drop_17 ?_
  refine A_iconst C (pc := 20) ic_1 dX6_drop_20 ?_
  refine A_iload_n C (pc := 21) 0 rfl dX6_drop_21 ?_
  refine A_ishl C (pc := 22) dX6_drop_22 ?_
  refine A_iconst C (pc := 23) ic_m1 dX6_drop_23 ?_
  refine A_ixor C (pc := 24) dX6_drop_24 ?_
  refine A_iand C (pc := 25) dX6_drop_25 ?_
  obtain ⟨z26, h26, hf⟩ := bd_i hf
  refine A_callV0 C (pc := 26) (A := [.int (z17 &&& (((1 : Int32) <<< (x2 &&& 31)) ^^^ ((-1))))]) (rest := []) k_X6_95 ky_X3_retain kv_X3_retain (m_X3_retain l B D Y o ((of_decide_eq_true k3)) h26) (kO ((of_decide_eq_true k3))).1 (ent2 ((of_decide_eq_true k3))) rfl rfl rfl (Nat.le_of_ble_eq_true rfl) ⟨rfl, rfl, Nat.le_of_ble_eq_true rfl, Nat.le_of_ble_eq_true rfl⟩ ⟨Nat.le_of_ble_eq_true rfl, Nat.le_of_ble_eq_true rfl⟩ dX6_drop_26 ?_
  refine A_iload C (pc := 29) 2 rfl dX6_drop_29 ?_
  exact X_ri C (pc := 31) hr hk rfl ⟨Nat.le_of_ble_eq_true rfl, Nat.le_of_ble_eq_true rfl⟩ dX6_drop_31 hf
set_option maxRecDepth 100000 in
theorem m_X6_lay (l : Launch) (hl9 : l.stackTraces = false) (B : Nat) (D : va_G) (Y : Nat → ClassId) (o : Ou) {M : Mem} {x1 : Int32} {x2 : Int32} {r : (String ⊕ Int32) × Mem}  (hf : f_X6_lay M x1 x2 = some r) : XW l yX6_lay cX6_lay 5 (some .int) rm_X6_lay 2 12 B D Y o [.ref (B + 0), .int x1, .int x2] M tvI r := by
  refine ofAtX (L0 := [(0, .ref (B + 0)), (1, .int x1), (2, .int x2)]) (by decide +kernel) (Nat.le_of_ble_eq_true rfl) rfl (fun p e s m args below meth c C hX hr hk hout => ?_)
  dsimp only [f_X6_lay] at hf
  refine A_aload_n C (pc := 0) 0 rfl dX6_lay_0 ?_
  refine A_iload_n C (pc := 1) 1 rfl dX6_lay_1 ?_
  obtain ⟨z2, h2, hf⟩ := bd_i hf
  refine X_callV C (pc := 2) hX hk hout (A := [.int x1]) (rest := []) kl_X6_48 ky_X6_orderAt kv_X6_orderAt (m_X6_orderAt l hl9 B D Y o  h2) (by decide) rfl rfl rfl rfl (Nat.le_of_ble_eq_true rfl) ⟨rfl, rfl, Nat.le_of_ble_eq_true rfl, Nat.le_of_ble_eq_true rfl⟩ ⟨Nat.le_of_ble_eq_true rfl, Nat.le_of_ble_eq_true rfl⟩ ⟨Nat.le_of_ble_eq_true rfl, Nat.le_of_ble_eq_true rfl⟩ dX6_lay_2 hf (fun v2 _ hf => ?_)
  obtain ⟨k2, hf⟩ := chk_i hf
  refine A_astore_n C (pc := 5) [(2, .int x2), (3, .ref (B + v2))] rfl (by decide) [3, 0] rfl dX6_lay_5 ?_
  refine A_iload_n C (pc := 6) 0 rfl dX6_lay_6 ?_
  obtain ⟨z7, h7, hf⟩ := bd_i hf
  refine X_callS C (pc := 7) hX hk hout (A := [.int x2]) (rest := []) kl_X6_52 ky_X6_refuseOddMany ks_X6_refuseOddMany (m_X6_refuseOddMany l hl9 B D Y o  h7) rfl rfl (Nat.le_of_ble_eq_true rfl) ⟨rfl, rfl, Nat.le_of_ble_eq_true rfl, Nat.le_of_ble_eq_true rfl⟩ ⟨Nat.le_of_ble_eq_true rfl, Nat.le_of_ble_eq_true rfl⟩ ⟨Nat.le_of_ble_eq_true rfl, Nat.le_of_ble_eq_true rfl⟩ dX6_lay_7 hf (fun v7 _ hf => ?_)
  refine A_aload_n C (pc := 10) 1 rfl dX6_lay_10 ?_
  refine A_g3_0 C (pc := 11) ((of_decide_eq_true k2)) kf_X6_56 dX6_lay_11 ?_
  obtain ⟨v14, e14, hf⟩ := bd_i hf
  refine A_nmI e14 ?_
  refine A_istore C (pc := 14) [(2, .int x2), (3, .ref (B + v2)), (4, .int v14)] (by decide) [1, 2, 0] rfl dX6_lay_14 ?_
  refine A_aload_n C (pc := 16) 1 rfl dX6_lay_16 ?_
  refine A_iload_n C (pc := 17) 0 rfl dX6_lay_17 ?_
  obtain ⟨z18, h18, hf⟩ := bd_i hf
  refine A_callV0 C (pc := 18) (A := [.int x2]) (rest := []) k_X6_60 ky_X3_clearTo kv_X3_clearTo (m_X3_clearTo l B D Y o ((of_decide_eq_true k2)) h18) (kO ((of_decide_eq_true k2))).1 (ent2 ((of_decide_eq_true k2))) rfl rfl rfl (Nat.le_of_ble_eq_true rfl) ⟨rfl, rfl, Nat.le_of_ble_eq_true rfl, Nat.le_of_ble_eq_true rfl⟩ ⟨Nat.le_of_ble_eq_true rfl, Nat.le_of_ble_eq_true rfl⟩ dX6_lay_18 ?_
  refine A_iload C (pc := 21) 2 rfl dX6_lay_21 ?_
  exact X_ri C (pc := 23) hr hk rfl ⟨Nat.le_of_ble_eq_true rfl, Nat.le_of_ble_eq_true rfl⟩ dX6_lay_23 hf
set_option maxRecDepth 100000 in
theorem m_X6_lower (l : Launch) (hl9 : l.stackTraces = false) (B : Nat) (D : va_G) (Y : Nat → ClassId) (o : Ou) {M : Mem} {x1 : Int32} {x2 : Int32} {r : (String ⊕ Int32) × Mem}  (hf : f_X6_lower M x1 x2 = some r) : XW l yX6_lower cX6_lower 3 (some .int) rm_X6_lower 2 12 B D Y o [.ref (B + 0), .int x1, .int x2] M tvI r := by
  refine ofAtX (L0 := [(0, .ref (B + 0)), (1, .int x1), (2, .int x2)]) (by decide +kernel) (Nat.le_of_ble_eq_true rfl) rfl (fun p e s m args below meth c C hX hr hk hout => ?_)
  dsimp only [f_X6_lower] at hf
  refine A_aload_n C (pc := 0) 0 rfl dX6_lower_0 ?_
  refine A_iload_n C (pc := 1) 1 rfl dX6_lower_1 ?_
  refine A_iload_n C (pc := 2) 2 rfl dX6_lower_2 ?_
  obtain ⟨z3, h3, hf⟩ := bd_i hf
  refine X_callV C (pc := 3) hX hk hout (A := [.int x1, .int x2]) (rest := []) kl_X6_84 ky_X6_orderWith kv_X6_orderWith (m_X6_orderWith l hl9 B D Y o  h3) (by decide) rfl rfl rfl rfl (Nat.le_of_ble_eq_true rfl) ⟨rfl, rfl, Nat.le_of_ble_eq_true rfl, Nat.le_of_ble_eq_true rfl⟩ ⟨Nat.le_of_ble_eq_true rfl, Nat.le_of_ble_eq_true rfl⟩ ⟨Nat.le_of_ble_eq_true rfl, Nat.le_of_ble_eq_true rfl⟩ dX6_lower_3 hf (fun v3 _ hf => ?_)
  obtain ⟨k3, hf⟩ := chk_i hf
  refine A_g3_1 C (pc := 6) ((of_decide_eq_true k3)) kf_X6_149 dX6_lower_6 ?_
  refine A_iload_n C (pc := 9) 2 rfl dX6_lower_9 ?_
  obtain ⟨c10, hf⟩ := chk_i hf
  refine A_iald C (pc := 10) (iO1 (of_decide_eq_true k3)) c10 dX6_lower_10 ?_
  exact X_ri C (pc := 11) hr hk rfl ⟨Nat.le_of_ble_eq_true rfl, Nat.le_of_ble_eq_true rfl⟩ dX6_lower_11 hf
set_option maxRecDepth 100000 in
theorem m_X6_above (l : Launch) (hl9 : l.stackTraces = false) (B : Nat) (D : va_G) (Y : Nat → ClassId) (o : Ou) {M : Mem} {x1 : Int32} {x2 : Int32} {x3 : Int32} {r : (String ⊕ Int32) × Mem}  (hf : f_X6_above M x1 x2 x3 = some r) : XW l yX6_above cX6_above 4 (some .int) rm_X6_above 4 24 B D Y o [.ref (B + 0), .int x1, .int x2, .int x3] M tvI r := by
  refine ofAtX (L0 := [(0, .ref (B + 0)), (1, .int x1), (2, .int x2), (3, .int x3)]) (by decide +kernel) (Nat.le_of_ble_eq_true rfl) rfl (fun p e s m args below meth c C hX hr hk hout => ?_)
  dsimp only [f_X6_above] at hf
  refine A_aload_n C (pc := 0) 0 rfl dX6_above_0 ?_
  refine A_iload_n C (pc := 1) 1 rfl dX6_above_1 ?_
  refine A_iload_n C (pc := 2) 2 rfl dX6_above_2 ?_
  refine A_iload_n C (pc := 3) 3 rfl dX6_above_3 ?_
  refine A_iconst C (pc := 4) ic_1 dX6_above_4 ?_
  obtain ⟨z5, h5, hf⟩ := bd_i hf
  refine X_callV C (pc := 5) hX hk hout (A := [.int x1, .int x2, .int x3, .int 1]) (rest := []) kl_X6_135 ky_X6_joinInto kv_X6_joinInto (m_X6_joinInto l hl9 B D Y o  h5) (by decide) rfl rfl rfl rfl (Nat.le_of_ble_eq_true rfl) ⟨rfl, rfl, Nat.le_of_ble_eq_true rfl, Nat.le_of_ble_eq_true rfl⟩ ⟨Nat.le_of_ble_eq_true rfl, Nat.le_of_ble_eq_true rfl⟩ ⟨Nat.le_of_ble_eq_true rfl, Nat.le_of_ble_eq_true rfl⟩ dX6_above_5 hf (fun v5 _ hf => ?_)
  obtain ⟨k5, hf⟩ := chk_i hf
  obtain ⟨z8, h8, hf⟩ := bd_i hf
  refine A_callV1 C (pc := 8) (A := []) (rest := []) k_X6_66 ky_X3_pairCount kv_X3_pairCount (m_X3_pairCount l B D Y o ((of_decide_eq_true k5)) h8) (kO ((of_decide_eq_true k5))).1 (ent2 ((of_decide_eq_true k5))) rfl rfl rfl (Nat.le_of_ble_eq_true rfl) ⟨rfl, rfl, Nat.le_of_ble_eq_true rfl, Nat.le_of_ble_eq_true rfl⟩ ⟨Nat.le_of_ble_eq_true rfl, Nat.le_of_ble_eq_true rfl⟩ dX6_above_8 ?_
  exact X_ri C (pc := 11) hr hk rfl ⟨Nat.le_of_ble_eq_true rfl, Nat.le_of_ble_eq_true rfl⟩ dX6_above_11 hf
set_option maxRecDepth 100000 in
theorem m_X6_near (l : Launch) (hl9 : l.stackTraces = false) (B : Nat) (D : va_G) (Y : Nat → ClassId) (o : Ou) {M : Mem} {x1 : Int32} {x2 : Int32} {x3 : Int32} {r : (String ⊕ Int32) × Mem}  (hf : f_X6_near M x1 x2 x3 = some r) : XW l yX6_near cX6_near 5 (some .int) rm_X6_near 3 18 B D Y o [.ref (B + 0), .int x1, .int x2, .int x3] M tvI r := by
  refine ofAtX (L0 := [(0, .ref (B + 0)), (1, .int x1), (2, .int x2), (3, .int x3)]) (by decide +kernel) (Nat.le_of_ble_eq_true rfl) rfl (fun p e s m args below meth c C hX hr hk hout => ?_)
  dsimp only [f_X6_near] at hf
  refine A_aload_n C (pc := 0) 0 rfl dX6_near_0 ?_
  refine A_iload_n C (pc := 1) 1 rfl dX6_near_1 ?_
  refine A_iload_n C (pc := 2) 2 rfl dX6_near_2 ?_
  obtain ⟨z3, h3, hf⟩ := bd_i hf
  refine X_callV C (pc := 3) hX hk hout (A := [.int x1, .int x2]) (rest := []) kl_X6_98 ky_X6_orderWithSet kv_X6_orderWithSet (m_X6_orderWithSet l hl9 B D Y o  h3) (by decide) rfl rfl rfl rfl (Nat.le_of_ble_eq_true rfl) ⟨rfl, rfl, Nat.le_of_ble_eq_true rfl, Nat.le_of_ble_eq_true rfl⟩ ⟨Nat.le_of_ble_eq_true rfl, Nat.le_of_ble_eq_true rfl⟩ ⟨Nat.le_of_ble_eq_true rfl, Nat.le_of_ble_eq_true rfl⟩ dX6_near_3 hf (fun v3 _ hf => ?_)
  obtain ⟨k3, hf⟩ := chk_i hf
  refine A_astore C (pc := 6) [(2, .int x2), (3, .int x3), (4, .ref (B + v3))] (by decide) [3, 4, 0] rfl dX6_near_6 ?_
  refine A_iload_n C (pc := 8) 1 rfl dX6_near_8 ?_
  by_cases h99 : x3 = 99
  · rw [if_pos h99] at hf
    refine A_tsI C (pc := 9) 91 dX6_near_9 (by rw [h99]; decide) (by rw [h99]; decide) (by rw [h99]; rfl) (by decide) ?_
    refine A_aload C (pc := 91) 2 rfl dX6_near_91 ?_
    refine A_iload_n C (pc := 93) 0 rfl dX6_near_93 ?_
    obtain ⟨z94, h94, hf⟩ := bd_i hf
    refine A_callV1 C (pc := 94) (A := [.int x2]) (rest := []) k_X6_204 ky_X3_isClosedBelow kv_X3_isClosedBelow (m_X3_isClosedBelow l B D Y o ((of_decide_eq_true k3)) h94) (kO ((of_decide_eq_true k3))).1 (ent2 ((of_decide_eq_true k3))) rfl rfl rfl (Nat.le_of_ble_eq_true rfl) ⟨rfl, rfl, Nat.le_of_ble_eq_true rfl, Nat.le_of_ble_eq_true rfl⟩ ⟨Nat.le_of_ble_eq_true rfl, Nat.le_of_ble_eq_true rfl⟩ dX6_near_94 ?_
    refine A_if_eq C (pc := 97) 104 (by decide) dX6_near_97 hf (fun _ hf => ?_) (fun _ hf => ?_)
    · refine A_aload C (pc := 104) 2 rfl dX6_near_104 ?_
      refine A_iload_n C (pc := 106) 0 rfl dX6_near_106 ?_
      obtain ⟨z107, h107, hf⟩ := bd_i hf
      refine A_callS1 C (pc := 107) (A := [.ref (B + v3), .int x2]) (rest := []) k_X6_213 ky_X1_firstBehind ks_X1_firstBehind (m_X1_firstBehind l B D Y o ((of_decide_eq_true k3)) h107) rfl rfl (Nat.le_of_ble_eq_true rfl) ⟨rfl, rfl, Nat.le_of_ble_eq_true rfl, Nat.le_of_ble_eq_true rfl⟩ ⟨Nat.le_of_ble_eq_true rfl, Nat.le_of_ble_eq_true rfl⟩ dX6_near_107 ?_
      exact X_ri C (pc := 110) hr hk rfl ⟨Nat.le_of_ble_eq_true rfl, Nat.le_of_ble_eq_true rfl⟩ dX6_near_110 hf
    · refine A_iload_n C (pc := 100) 0 rfl dX6_near_100 ?_
      refine A_goto C (pc := 101) 110 (by decide) dX6_near_101 ?_
      exact X_ri C (pc := 110) hr hk rfl ⟨Nat.le_of_ble_eq_true rfl, Nat.le_of_ble_eq_true rfl⟩ dX6_near_110 hf
  rw [if_neg h99] at hf
  by_cases h102 : x3 = 102
  · rw [if_pos h102] at hf
    refine A_tsI C (pc := 9) 71 dX6_near_9 (by rw [h102]; decide) (by rw [h102]; decide) (by rw [h102]; rfl) (by decide) ?_
    refine A_aload C (pc := 71) 2 rfl dX6_near_71 ?_
    refine A_iload_n C (pc := 73) 0 rfl dX6_near_73 ?_
    obtain ⟨z74, h74, hf⟩ := bd_i hf
    refine A_callV1 C (pc := 74) (A := [.int x2]) (rest := []) k_X6_204 ky_X3_isClosedBelow kv_X3_isClosedBelow (m_X3_isClosedBelow l B D Y o ((of_decide_eq_true k3)) h74) (kO ((of_decide_eq_true k3))).1 (ent2 ((of_decide_eq_true k3))) rfl rfl rfl (Nat.le_of_ble_eq_true rfl) ⟨rfl, rfl, Nat.le_of_ble_eq_true rfl, Nat.le_of_ble_eq_true rfl⟩ ⟨Nat.le_of_ble_eq_true rfl, Nat.le_of_ble_eq_true rfl⟩ dX6_near_74 ?_
    refine A_if_eq C (pc := 77) 84 (by decide) dX6_near_77 hf (fun _ hf => ?_) (fun _ hf => ?_)
    · refine A_aload C (pc := 84) 2 rfl dX6_near_84 ?_
      refine A_iload_n C (pc := 86) 0 rfl dX6_near_86 ?_
      obtain ⟨z87, h87, hf⟩ := bd_i hf
      refine A_callS1 C (pc := 87) (A := [.ref (B + v3), .int x2]) (rest := []) k_X6_210 ky_X1_lastAhead ks_X1_lastAhead (m_X1_lastAhead l B D Y o ((of_decide_eq_true k3)) h87) rfl rfl (Nat.le_of_ble_eq_true rfl) ⟨rfl, rfl, Nat.le_of_ble_eq_true rfl, Nat.le_of_ble_eq_true rfl⟩ ⟨Nat.le_of_ble_eq_true rfl, Nat.le_of_ble_eq_true rfl⟩ dX6_near_87 ?_
      exact X_ri C (pc := 90) hr hk rfl ⟨Nat.le_of_ble_eq_true rfl, Nat.le_of_ble_eq_true rfl⟩ dX6_near_90 hf
    · refine A_iload_n C (pc := 80) 0 rfl dX6_near_80 ?_
      refine A_goto C (pc := 81) 90 (by decide) dX6_near_81 ?_
      exact X_ri C (pc := 90) hr hk rfl ⟨Nat.le_of_ble_eq_true rfl, Nat.le_of_ble_eq_true rfl⟩ dX6_near_90 hf
  rw [if_neg h102] at hf
  by_cases h104 : x3 = 104
  · rw [if_pos h104] at hf
    refine A_tsI C (pc := 9) 111 dX6_near_9 (by rw [h104]; decide) (by rw [h104]; decide) (by rw [h104]; rfl) (by decide) ?_
    refine A_aload C (pc := 111) 2 rfl dX6_near_111 ?_
    refine A_iload_n C (pc := 113) 0 rfl dX6_near_113 ?_
    obtain ⟨z114, h114, hf⟩ := bd_i hf
    refine A_callS1 C (pc := 114) (A := [.ref (B + v3), .int x2]) (rest := []) k_X6_213 ky_X1_firstBehind ks_X1_firstBehind (m_X1_firstBehind l B D Y o ((of_decide_eq_true k3)) h114) rfl rfl (Nat.le_of_ble_eq_true rfl) ⟨rfl, rfl, Nat.le_of_ble_eq_true rfl, Nat.le_of_ble_eq_true rfl⟩ ⟨Nat.le_of_ble_eq_true rfl, Nat.le_of_ble_eq_true rfl⟩ dX6_near_114 ?_
    exact X_ri C (pc := 117) hr hk rfl ⟨Nat.le_of_ble_eq_true rfl, Nat.le_of_ble_eq_true rfl⟩ dX6_near_117 hf
  rw [if_neg h104] at hf
  by_cases h108 : x3 = 108
  · rw [if_pos h108] at hf
    refine A_tsI C (pc := 9) 64 dX6_near_9 (by rw [h108]; decide) (by rw [h108]; decide) (by rw [h108]; rfl) (by decide) ?_
    refine A_aload C (pc := 64) 2 rfl dX6_near_64 ?_
    refine A_iload_n C (pc := 66) 0 rfl dX6_near_66 ?_
    obtain ⟨z67, h67, hf⟩ := bd_i hf
    refine A_callS1 C (pc := 67) (A := [.ref (B + v3), .int x2]) (rest := []) k_X6_210 ky_X1_lastAhead ks_X1_lastAhead (m_X1_lastAhead l B D Y o ((of_decide_eq_true k3)) h67) rfl rfl (Nat.le_of_ble_eq_true rfl) ⟨rfl, rfl, Nat.le_of_ble_eq_true rfl, Nat.le_of_ble_eq_true rfl⟩ ⟨Nat.le_of_ble_eq_true rfl, Nat.le_of_ble_eq_true rfl⟩ dX6_near_67 ?_
    exact X_ri C (pc := 70) hr hk rfl ⟨Nat.le_of_ble_eq_true rfl, Nat.le_of_ble_eq_true rfl⟩ dX6_near_70 hf
  rw [if_neg h108] at hf
  refine A_tsN C (pc := 9) 118 dX6_near_9 (ts_near h99 h102 h104 h108) (by decide) ?_
  exact X_thr C (pc := 118) hX hl9 hk hout kt_X6_216_220 (List.mem_of_getElem? (i := 9) rfl) dX6_near_118 dX6_near_121 dX6_near_122 dX6_near_124 dX6_near_127 (Nat.le_of_ble_eq_true rfl) (Nat.le_of_ble_eq_true rfl) ⟨Nat.le_of_ble_eq_true rfl, Nat.le_of_ble_eq_true rfl⟩ ⟨Nat.le_of_ble_eq_true rfl, Nat.le_of_ble_eq_true rfl⟩ hf
set_option maxRecDepth 100000 in
theorem m_X6_put (l : Launch) (hl9 : l.stackTraces = false) (B : Nat) (D : va_G) (Y : Nat → ClassId) (o : Ou) {M : Mem} {x1 : Int32} {x2 : Int32} {x3 : Int32} {r : (String ⊕ Int32) × Mem}  (hf : f_X6_put M x1 x2 x3 = some r) : XW l yX6_put cX6_put 4 (some .int) rm_X6_put 3 18 B D Y o [.ref (B + 0), .int x1, .int x2, .int x3] M tvI r := by
  refine ofAtX (L0 := [(0, .ref (B + 0)), (1, .int x1), (2, .int x2), (3, .int x3)]) (by decide +kernel) (Nat.le_of_ble_eq_true rfl) rfl (fun p e s m args below meth c C hX hr hk hout => ?_)
  dsimp only [f_X6_put] at hf
  refine A_aload_n C (pc := 0) 0 rfl dX6_put_0 ?_
  refine A_iload_n C (pc := 1) 1 rfl dX6_put_1 ?_
  refine A_iload_n C (pc := 2) 2 rfl dX6_put_2 ?_
  refine A_iload_n C (pc := 3) 3 rfl dX6_put_3 ?_
  obtain ⟨z4, h4, hf⟩ := bd_i hf
  refine X_callV C (pc := 4) hX hk hout (A := [.int x1, .int x2, .int x3]) (rest := []) kl_X6_101 ky_X6_orderWithBoth kv_X6_orderWithBoth (m_X6_orderWithBoth l hl9 B D Y o  h4) (by decide) rfl rfl rfl rfl (Nat.le_of_ble_eq_true rfl) ⟨rfl, rfl, Nat.le_of_ble_eq_true rfl, Nat.le_of_ble_eq_true rfl⟩ ⟨Nat.le_of_ble_eq_true rfl, Nat.le_of_ble_eq_true rfl⟩ ⟨Nat.le_of_ble_eq_true rfl, Nat.le_of_ble_eq_true rfl⟩ dX6_put_4 hf (fun v4 _ hf => ?_)
  obtain ⟨k4, hf⟩ := chk_i hf
  refine A_iload_n C (pc := 7) 2 rfl dX6_put_7 ?_
  refine A_iload_n C (pc := 8) 3 rfl dX6_put_8 ?_
  obtain ⟨z9, h9, hf⟩ := bd_i hf
  refine A_callV1 C (pc := 9) (A := [.int x2, .int x3]) (rest := []) k_X6_105 ky_X3_link kv_X3_link (m_X3_link l B D Y o ((of_decide_eq_true k4)) h9) (kO ((of_decide_eq_true k4))).1 (ent2 ((of_decide_eq_true k4))) rfl rfl rfl (Nat.le_of_ble_eq_true rfl) ⟨rfl, rfl, Nat.le_of_ble_eq_true rfl, Nat.le_of_ble_eq_true rfl⟩ ⟨Nat.le_of_ble_eq_true rfl, Nat.le_of_ble_eq_true rfl⟩ dX6_put_9 ?_
  exact X_ri C (pc := 12) hr hk rfl ⟨Nat.le_of_ble_eq_true rfl, Nat.le_of_ble_eq_true rfl⟩ dX6_put_12 hf
set_option maxRecDepth 100000 in
theorem m_X6_things (l : Launch) (hl9 : l.stackTraces = false) (B : Nat) (D : va_G) (Y : Nat → ClassId) (o : Ou) {M : Mem} {x1 : Int32} {r : (String ⊕ Int32) × Mem}  (hf : f_X6_things M x1 = some r) : XW l yX6_things cX6_things 2 (some .int) rm_X6_things 1 6 B D Y o [.ref (B + 0), .int x1] M tvI r := by
  refine ofAtX (L0 := [(0, .ref (B + 0)), (1, .int x1)]) (by decide +kernel) (Nat.le_of_ble_eq_true rfl) rfl (fun p e s m args below meth c C hX hr hk hout => ?_)
  dsimp only [f_X6_things] at hf
  refine A_aload_n C (pc := 0) 0 rfl dX6_things_0 ?_
  refine A_iload_n C (pc := 1) 1 rfl dX6_things_1 ?_
  obtain ⟨z2, h2, hf⟩ := bd_i hf
  refine X_callV C (pc := 2) hX hk hout (A := [.int x1]) (rest := []) kl_X6_48 ky_X6_orderAt kv_X6_orderAt (m_X6_orderAt l hl9 B D Y o  h2) (by decide) rfl rfl rfl rfl (Nat.le_of_ble_eq_true rfl) ⟨rfl, rfl, Nat.le_of_ble_eq_true rfl, Nat.le_of_ble_eq_true rfl⟩ ⟨Nat.le_of_ble_eq_true rfl, Nat.le_of_ble_eq_true rfl⟩ ⟨Nat.le_of_ble_eq_true rfl, Nat.le_of_ble_eq_true rfl⟩ dX6_things_2 hf (fun v2 _ hf => ?_)
  obtain ⟨k2, hf⟩ := chk_i hf
  refine A_g3_0 C (pc := 5) ((of_decide_eq_true k2)) kf_X6_56 dX6_things_5 ?_
  exact X_ri C (pc := 8) hr hk rfl ⟨Nat.le_of_ble_eq_true rfl, Nat.le_of_ble_eq_true rfl⟩ dX6_things_8 hf
set_option maxRecDepth 100000 in
theorem m_X6_rows (l : Launch) (hl9 : l.stackTraces = false) (B : Nat) (D : va_G) (Y : Nat → ClassId) (o : Ou) {M : Mem} {x1 : Int32} {r : (String ⊕ Int32) × Mem}  (hf : f_X6_rows M x1 = some r) : XW l yX6_rows cX6_rows 2 (some .int) rm_X6_rows 1 6 B D Y o [.ref (B + 0), .int x1] M tvI r := by
  refine ofAtX (L0 := [(0, .ref (B + 0)), (1, .int x1)]) (by decide +kernel) (Nat.le_of_ble_eq_true rfl) rfl (fun p e s m args below meth c C hX hr hk hout => ?_)
  dsimp only [f_X6_rows] at hf
  refine A_aload_n C (pc := 0) 0 rfl dX6_rows_0 ?_
  refine A_g6_3 C (pc := 1) kf_X6_30 dX6_rows_1 ?_
  refine A_aload_n C (pc := 4) 0 rfl dX6_rows_4 ?_
  refine A_iload_n C (pc := 5) 1 rfl dX6_rows_5 ?_
  obtain ⟨z6, h6, hf⟩ := bd_i hf
  refine X_callV C (pc := 6) hX hk hout (A := [.int x1]) (rest := [.ref (B + 20)]) kl_X6_48 ky_X6_orderAt kv_X6_orderAt (m_X6_orderAt l hl9 B D Y o  h6) (by decide) rfl rfl rfl rfl (Nat.le_of_ble_eq_true rfl) ⟨rfl, rfl, Nat.le_of_ble_eq_true rfl, Nat.le_of_ble_eq_true rfl⟩ ⟨Nat.le_of_ble_eq_true rfl, Nat.le_of_ble_eq_true rfl⟩ ⟨Nat.le_of_ble_eq_true rfl, Nat.le_of_ble_eq_true rfl⟩ dX6_rows_6 hf (fun v6 _ hf => ?_)
  obtain ⟨k6, hf⟩ := chk_i hf
  obtain ⟨z9, h9, hf⟩ := bd_i hf
  refine A_callV1 C (pc := 9) (A := [.ref (B + v6)]) (rest := []) k_X6_231 ky_X4_count kv_X4_count (m_X4_count l B D Y o ((show kd 20 = 4 from rfl)) ((of_decide_eq_true k6)) h9) (kR ((show kd 20 = 4 from rfl))).1 (ent4 ((show kd 20 = 4 from rfl))) rfl rfl rfl (Nat.le_of_ble_eq_true rfl) ⟨rfl, rfl, Nat.le_of_ble_eq_true rfl, Nat.le_of_ble_eq_true rfl⟩ ⟨Nat.le_of_ble_eq_true rfl, Nat.le_of_ble_eq_true rfl⟩ dX6_rows_9 ?_
  exact X_ri C (pc := 12) hr hk rfl ⟨Nat.le_of_ble_eq_true rfl, Nat.le_of_ble_eq_true rfl⟩ dX6_rows_12 hf
set_option maxRecDepth 100000 in
theorem m_X6_isSound (l : Launch) (hl9 : l.stackTraces = false) (B : Nat) (D : va_G) (Y : Nat → ClassId) (o : Ou) {M : Mem} {x1 : Int32} {r : (String ⊕ Int32) × Mem}  (hf : f_X6_isSound M x1 = some r) : XW l yX6_isSound cX6_isSound 2 (some .boolean) rm_X6_isSound 1 6 B D Y o [.ref (B + 0), .int x1] M tvI r := by
  refine ofAtX (L0 := [(0, .ref (B + 0)), (1, .int x1)]) (by decide +kernel) (Nat.le_of_ble_eq_true rfl) rfl (fun p e s m args below meth c C hX hr hk hout => ?_)
  dsimp only [f_X6_isSound] at hf
  refine A_aload_n C (pc := 0) 0 rfl dX6_isSound_0 ?_
  refine A_g6_5 C (pc := 1) kf_X6_44 dX6_isSound_1 ?_
  refine A_aload_n C (pc := 4) 0 rfl dX6_isSound_4 ?_
  refine A_iload_n C (pc := 5) 1 rfl dX6_isSound_5 ?_
  obtain ⟨z6, h6, hf⟩ := bd_i hf
  refine X_callV C (pc := 6) hX hk hout (A := [.int x1]) (rest := [.ref (B + 26)]) kl_X6_48 ky_X6_orderAt kv_X6_orderAt (m_X6_orderAt l hl9 B D Y o  h6) (by decide) rfl rfl rfl rfl (Nat.le_of_ble_eq_true rfl) ⟨rfl, rfl, Nat.le_of_ble_eq_true rfl, Nat.le_of_ble_eq_true rfl⟩ ⟨Nat.le_of_ble_eq_true rfl, Nat.le_of_ble_eq_true rfl⟩ ⟨Nat.le_of_ble_eq_true rfl, Nat.le_of_ble_eq_true rfl⟩ dX6_isSound_6 hf (fun v6 _ hf => ?_)
  obtain ⟨k6, hf⟩ := chk_i hf
  obtain ⟨z9, h9, hf⟩ := bd_i hf
  refine A_callV1 C (pc := 9) (A := [.ref (B + v6)]) (rest := []) k_X6_264 ky_X5_holdsFor kv_X5_holdsFor (m_X5_holdsFor l B D Y o ((of_decide_eq_true k6)) h9) (by decide) rfl rfl rfl rfl (Nat.le_of_ble_eq_true rfl) ⟨rfl, rfl, Nat.le_of_ble_eq_true rfl, Nat.le_of_ble_eq_true rfl⟩ ⟨Nat.le_of_ble_eq_true rfl, Nat.le_of_ble_eq_true rfl⟩ dX6_isSound_9 ?_
  obtain ⟨c12, hf⟩ := chk_i hf
  exact X_ri C (pc := 12) hr hk (isb_nz c12) ⟨Nat.le_of_ble_eq_true rfl, Nat.le_of_ble_eq_true rfl⟩ dX6_isSound_12 hf
set_option maxRecDepth 100000 in
theorem m_X6_widest (l : Launch) (hl9 : l.stackTraces = false) (B : Nat) (D : va_G) (Y : Nat → ClassId) (o : Ou) {M : Mem} {x1 : Int32} {r : (String ⊕ Int32) × Mem}  (hf : f_X6_widest M x1 = some r) : XW l yX6_widest cX6_widest 2 (some .int) rm_X6_widest 1 6 B D Y o [.ref (B + 0), .int x1] M tvI r := by
  refine ofAtX (L0 := [(0, .ref (B + 0)), (1, .int x1)]) (by decide +kernel) (Nat.le_of_ble_eq_true rfl) rfl (fun p e s m args below meth c C hX hr hk hout => ?_)
  dsimp only [f_X6_widest] at hf
  refine A_aload_n C (pc := 0) 0 rfl dX6_widest_0 ?_
  refine A_iload_n C (pc := 1) 1 rfl dX6_widest_1 ?_
  obtain ⟨z2, h2, hf⟩ := bd_i hf
  refine X_callV C (pc := 2) hX hk hout (A := [.int x1]) (rest := []) kl_X6_48 ky_X6_orderAt kv_X6_orderAt (m_X6_orderAt l hl9 B D Y o  h2) (by decide) rfl rfl rfl rfl (Nat.le_of_ble_eq_true rfl) ⟨rfl, rfl, Nat.le_of_ble_eq_true rfl, Nat.le_of_ble_eq_true rfl⟩ ⟨Nat.le_of_ble_eq_true rfl, Nat.le_of_ble_eq_true rfl⟩ ⟨Nat.le_of_ble_eq_true rfl, Nat.le_of_ble_eq_true rfl⟩ dX6_widest_2 hf (fun v2 _ hf => ?_)
  obtain ⟨k2, hf⟩ := chk_i hf
  obtain ⟨z5, h5, hf⟩ := bd_i hf
  refine A_callS1 C (pc := 5) (A := [.ref (B + v2)]) (rest := []) k_X6_176 ky_X0_mostApart ks_X0_mostApart (m_X0_mostApart l B D Y o ((of_decide_eq_true k2)) h5) rfl rfl (Nat.le_of_ble_eq_true rfl) ⟨rfl, rfl, Nat.le_of_ble_eq_true rfl, Nat.le_of_ble_eq_true rfl⟩ ⟨Nat.le_of_ble_eq_true rfl, Nat.le_of_ble_eq_true rfl⟩ dX6_widest_5 ?_
  exact X_ri C (pc := 8) hr hk rfl ⟨Nat.le_of_ble_eq_true rfl, Nat.le_of_ble_eq_true rfl⟩ dX6_widest_8 hf
set_option maxRecDepth 100000 in
theorem m_X6_pairs (l : Launch) (hl9 : l.stackTraces = false) (B : Nat) (D : va_G) (Y : Nat → ClassId) (o : Ou) {M : Mem} {x1 : Int32} {r : (String ⊕ Int32) × Mem}  (hf : f_X6_pairs M x1 = some r) : XW l yX6_pairs cX6_pairs 2 (some .int) rm_X6_pairs 1 6 B D Y o [.ref (B + 0), .int x1] M tvI r := by
  refine ofAtX (L0 := [(0, .ref (B + 0)), (1, .int x1)]) (by decide +kernel) (Nat.le_of_ble_eq_true rfl) rfl (fun p e s m args below meth c C hX hr hk hout => ?_)
  dsimp only [f_X6_pairs] at hf
  refine A_aload_n C (pc := 0) 0 rfl dX6_pairs_0 ?_
  refine A_iload_n C (pc := 1) 1 rfl dX6_pairs_1 ?_
  obtain ⟨z2, h2, hf⟩ := bd_i hf
  refine X_callV C (pc := 2) hX hk hout (A := [.int x1]) (rest := []) kl_X6_48 ky_X6_orderAt kv_X6_orderAt (m_X6_orderAt l hl9 B D Y o  h2) (by decide) rfl rfl rfl rfl (Nat.le_of_ble_eq_true rfl) ⟨rfl, rfl, Nat.le_of_ble_eq_true rfl, Nat.le_of_ble_eq_true rfl⟩ ⟨Nat.le_of_ble_eq_true rfl, Nat.le_of_ble_eq_true rfl⟩ ⟨Nat.le_of_ble_eq_true rfl, Nat.le_of_ble_eq_true rfl⟩ dX6_pairs_2 hf (fun v2 _ hf => ?_)
  obtain ⟨k2, hf⟩ := chk_i hf
  obtain ⟨z5, h5, hf⟩ := bd_i hf
  refine A_callV1 C (pc := 5) (A := []) (rest := []) k_X6_66 ky_X3_pairCount kv_X3_pairCount (m_X3_pairCount l B D Y o ((of_decide_eq_true k2)) h5) (kO ((of_decide_eq_true k2))).1 (ent2 ((of_decide_eq_true k2))) rfl rfl rfl (Nat.le_of_ble_eq_true rfl) ⟨rfl, rfl, Nat.le_of_ble_eq_true rfl, Nat.le_of_ble_eq_true rfl⟩ ⟨Nat.le_of_ble_eq_true rfl, Nat.le_of_ble_eq_true rfl⟩ dX6_pairs_5 ?_
  exact X_ri C (pc := 8) hr hk rfl ⟨Nat.le_of_ble_eq_true rfl, Nat.le_of_ble_eq_true rfl⟩ dX6_pairs_8 hf
set_option maxRecDepth 100000 in
theorem m_X6_meanPlace (l : Launch) (hl9 : l.stackTraces = false) (B : Nat) (D : va_G) (Y : Nat → ClassId) (o : Ou) {M : Mem} {x1 : Int32} {x2 : Int32} {r : (String ⊕ UInt64) × Mem}  (hf : f_X6_meanPlace M x1 x2 = some r) : XW l yX6_meanPlace cX6_meanPlace 5 (some .double) rm_X6_meanPlace 2 12 B D Y o [.ref (B + 0), .int x1, .int x2] M tvD r := by
  refine ofAtX (L0 := [(0, .ref (B + 0)), (1, .int x1), (2, .int x2)]) (by decide +kernel) (Nat.le_of_ble_eq_true rfl) rfl (fun p e s m args below meth c C hX hr hk hout => ?_)
  dsimp only [f_X6_meanPlace] at hf
  refine A_aload_n C (pc := 0) 0 rfl dX6_meanPlace_0 ?_
  refine A_iload_n C (pc := 1) 1 rfl dX6_meanPlace_1 ?_
  refine A_iload_n C (pc := 2) 2 rfl dX6_meanPlace_2 ?_
  obtain ⟨z3, h3, hf⟩ := bd_i hf
  refine X_callV C (pc := 3) hX hk hout (A := [.int x1, .int x2]) (rest := []) kl_X6_84 ky_X6_orderWith kv_X6_orderWith (m_X6_orderWith l hl9 B D Y o  h3) (by decide) rfl rfl rfl rfl (Nat.le_of_ble_eq_true rfl) ⟨rfl, rfl, Nat.le_of_ble_eq_true rfl, Nat.le_of_ble_eq_true rfl⟩ ⟨Nat.le_of_ble_eq_true rfl, Nat.le_of_ble_eq_true rfl⟩ ⟨Nat.le_of_ble_eq_true rfl, Nat.le_of_ble_eq_true rfl⟩ dX6_meanPlace_3 hf (fun v3 _ hf => ?_)
  obtain ⟨k3, hf⟩ := chk_i hf
  refine A_astore_n C (pc := 6) [(0, .ref (B + 0)), (2, .int x2), (3, .ref (B + v3))] rfl (by decide) [1, 3, 0] rfl dX6_meanPlace_6 ?_
  refine A_aload_n C (pc := 7) 0 rfl dX6_meanPlace_7 ?_
  refine A_g6_3 C (pc := 8) kf_X6_30 dX6_meanPlace_8 ?_
  refine A_aload_n C (pc := 11) 2 rfl dX6_meanPlace_11 ?_
  obtain ⟨z12, h12, hf⟩ := bd_i hf
  refine A_callV1 C (pc := 12) (A := [.ref (B + v3)]) (rest := []) k_X6_240 ky_X4_fill kv_X4_fill (m_X4_fill l B D Y o ((show kd 20 = 4 from rfl)) ((of_decide_eq_true k3)) h12) (kR ((show kd 20 = 4 from rfl))).1 (ent4 ((show kd 20 = 4 from rfl))) rfl rfl rfl (Nat.le_of_ble_eq_true rfl) ⟨rfl, rfl, Nat.le_of_ble_eq_true rfl, Nat.le_of_ble_eq_true rfl⟩ ⟨Nat.le_of_ble_eq_true rfl, Nat.le_of_ble_eq_true rfl⟩ dX6_meanPlace_12 ?_
  obtain ⟨z15, h15, hf⟩ := bd_i hf
  refine A_callS1 C (pc := 15) (A := [.int z12.1]) (rest := []) k_X6_249 ky_X6_atLeastOne ks_X6_atLeastOne (m_X6_atLeastOne l B D Y o  h15) rfl rfl (Nat.le_of_ble_eq_true rfl) ⟨rfl, rfl, Nat.le_of_ble_eq_true rfl, Nat.le_of_ble_eq_true rfl⟩ ⟨Nat.le_of_ble_eq_true rfl, Nat.le_of_ble_eq_true rfl⟩ dX6_meanPlace_15 ?_
  refine A_istore C (pc := 18) [(0, .ref (B + 0)), (2, .int x2), (3, .ref (B + v3)), (4, .int z15)] (by decide) [1, 2, 3, 0] rfl dX6_meanPlace_18 ?_
  refine A_aload_n C (pc := 20) 0 rfl dX6_meanPlace_20 ?_
  refine A_g6_3 C (pc := 21) kf_X6_30 dX6_meanPlace_21 ?_
  refine A_aload_n C (pc := 24) 2 rfl dX6_meanPlace_24 ?_
  refine A_iload_n C (pc := 25) 1 rfl dX6_meanPlace_25 ?_
  obtain ⟨z26, h26, hf⟩ := bd_i hf
  refine A_callV1 C (pc := 26) (A := [.ref (B + v3), .int x2]) (rest := []) k_X6_252 ky_X4_sumOfPlaces kv_X4_sumOfPlaces (m_X4_sumOfPlaces l B D Y o ((show kd 20 = 4 from rfl)) ((of_decide_eq_true k3)) h26) (kR ((show kd 20 = 4 from rfl))).1 (ent4 ((show kd 20 = 4 from rfl))) rfl rfl rfl (Nat.le_of_ble_eq_true rfl) ⟨rfl, rfl, Nat.le_of_ble_eq_true rfl, Nat.le_of_ble_eq_true rfl⟩ ⟨Nat.le_of_ble_eq_true rfl, Nat.le_of_ble_eq_true rfl⟩ dX6_meanPlace_26 ?_
  refine A_i2d C (pc := 29) dX6_meanPlace_29 ?_
  refine A_iload C (pc := 30) 3 rfl dX6_meanPlace_30 ?_
  refine A_i2d C (pc := 32) dX6_meanPlace_32 ?_
  obtain ⟨c33, hf⟩ := chk_i hf
  refine A_ddiv C (pc := 33) (nn64_i c33) dX6_meanPlace_33 ?_
  exact X_rd C (pc := 34) hr hk ⟨Nat.le_of_ble_eq_true rfl, Nat.le_of_ble_eq_true rfl⟩ dX6_meanPlace_34 hf
set_option maxRecDepth 100000 in
theorem m_X6_rowPlace (l : Launch) (hl9 : l.stackTraces = false) (B : Nat) (D : va_G) (Y : Nat → ClassId) (o : Ou) {M : Mem} {x1 : Int32} {x2 : Int32} {r : (String ⊕ Int32) × Mem}  (hf : f_X6_rowPlace M x1 x2 = some r) : XW l yX6_rowPlace cX6_rowPlace 3 (some .int) rm_X6_rowPlace 1 6 B D Y o [.ref (B + 0), .int x1, .int x2] M tvI r := by
  refine ofAtX (L0 := [(0, .ref (B + 0)), (1, .int x1), (2, .int x2)]) (by decide +kernel) (Nat.le_of_ble_eq_true rfl) rfl (fun p e s m args below meth c C hX hr hk hout => ?_)
  dsimp only [f_X6_rowPlace] at hf
  refine A_aload_n C (pc := 0) 0 rfl dX6_rowPlace_0 ?_
  refine A_g6_3 C (pc := 1) kf_X6_30 dX6_rowPlace_1 ?_
  refine A_aload_n C (pc := 4) 0 rfl dX6_rowPlace_4 ?_
  refine A_iload_n C (pc := 5) 1 rfl dX6_rowPlace_5 ?_
  obtain ⟨z6, h6, hf⟩ := bd_i hf
  refine X_callV C (pc := 6) hX hk hout (A := [.int x1]) (rest := [.ref (B + 20)]) kl_X6_48 ky_X6_orderAt kv_X6_orderAt (m_X6_orderAt l hl9 B D Y o  h6) (by decide) rfl rfl rfl rfl (Nat.le_of_ble_eq_true rfl) ⟨rfl, rfl, Nat.le_of_ble_eq_true rfl, Nat.le_of_ble_eq_true rfl⟩ ⟨Nat.le_of_ble_eq_true rfl, Nat.le_of_ble_eq_true rfl⟩ ⟨Nat.le_of_ble_eq_true rfl, Nat.le_of_ble_eq_true rfl⟩ dX6_rowPlace_6 hf (fun v6 _ hf => ?_)
  obtain ⟨k6, hf⟩ := chk_i hf
  refine A_iload_n C (pc := 9) 2 rfl dX6_rowPlace_9 ?_
  obtain ⟨z10, h10, hf⟩ := bd_i hf
  refine A_callV1 C (pc := 10) (A := [.ref (B + v6), .int x2]) (rest := []) k_X6_235 ky_X4_findPlace kv_X4_findPlace (m_X4_findPlace l B D Y o ((show kd 20 = 4 from rfl)) ((of_decide_eq_true k6)) h10) (kR ((show kd 20 = 4 from rfl))).1 (ent4 ((show kd 20 = 4 from rfl))) rfl rfl rfl (Nat.le_of_ble_eq_true rfl) ⟨rfl, rfl, Nat.le_of_ble_eq_true rfl, Nat.le_of_ble_eq_true rfl⟩ ⟨Nat.le_of_ble_eq_true rfl, Nat.le_of_ble_eq_true rfl⟩ dX6_rowPlace_10 ?_
  exact X_ri C (pc := 13) hr hk rfl ⟨Nat.le_of_ble_eq_true rfl, Nat.le_of_ble_eq_true rfl⟩ dX6_rowPlace_13 hf
set_option maxRecDepth 100000 in
theorem m_X6_keep (l : Launch) (hl9 : l.stackTraces = false) (B : Nat) (D : va_G) (Y : Nat → ClassId) (o : Ou) {M : Mem} {x1 : Int32} {x2 : Int32} {r : (String ⊕ Int32) × Mem}  (hf : f_X6_keep M x1 x2 = some r) : XW l yX6_keep cX6_keep 5 (some .int) rm_X6_keep 2 12 B D Y o [.ref (B + 0), .int x1, .int x2] M tvI r := by
  refine ofAtX (L0 := [(0, .ref (B + 0)), (1, .int x1), (2, .int x2)]) (by decide +kernel) (Nat.le_of_ble_eq_true rfl) rfl (fun p e s m args below meth c C hX hr hk hout => ?_)
  dsimp only [f_X6_keep] at hf
  refine A_aload_n C (pc := 0) 0 rfl dX6_keep_0 ?_
  refine A_iload_n C (pc := 1) 1 rfl dX6_keep_1 ?_
  refine A_iload_n C (pc := 2) 2 rfl dX6_keep_2 ?_
  obtain ⟨z3, h3, hf⟩ := bd_i hf
  refine X_callV C (pc := 3) hX hk hout (A := [.int x1, .int x2]) (rest := []) kl_X6_98 ky_X6_orderWithSet kv_X6_orderWithSet (m_X6_orderWithSet l hl9 B D Y o  h3) (by decide) rfl rfl rfl rfl (Nat.le_of_ble_eq_true rfl) ⟨rfl, rfl, Nat.le_of_ble_eq_true rfl, Nat.le_of_ble_eq_true rfl⟩ ⟨Nat.le_of_ble_eq_true rfl, Nat.le_of_ble_eq_true rfl⟩ ⟨Nat.le_of_ble_eq_true rfl, Nat.le_of_ble_eq_true rfl⟩ dX6_keep_3 hf (fun v3 _ hf => ?_)
  obtain ⟨k3, hf⟩ := chk_i hf
  refine A_astore_n C (pc := 6) [(2, .int x2), (3, .ref (B + v3))] rfl (by decide) [3, 0] rfl dX6_keep_6 ?_
  refine A_aload_n C (pc := 7) 1 rfl dX6_keep_7 ?_
  refine A_g3_0 C (pc := 8) ((of_decide_eq_true k3)) kf_X6_56 dX6_keep_8 ?_
  obtain ⟨v11, e11, hf⟩ := bd_i hf
  refine A_nmI e11 ?_
  refine A_istore C (pc := 11) [(2, .int x2), (3, .ref (B + v3)), (4, .int v11)] (by decide) [1, 2, 0] rfl dX6_keep_11 ?_
  refine A_aload_n C (pc := 13) 1 rfl dX6_keep_13 ?_
  refine A_iload_n C (pc := 14) 0 rfl dX6_keep_14 ?_
  obtain ⟨z15, h15, hf⟩ := bd_i hf
  refine A_callV0 C (pc := 15) (A := [.int x2]) (rest := []) k_X6_95 ky_X3_retain kv_X3_retain (m_X3_retain l B D Y o ((of_decide_eq_true k3)) h15) (kO ((of_decide_eq_true k3))).1 (ent2 ((of_decide_eq_true k3))) rfl rfl rfl (Nat.le_of_ble_eq_true rfl) ⟨rfl, rfl, Nat.le_of_ble_eq_true rfl, Nat.le_of_ble_eq_true rfl⟩ ⟨Nat.le_of_ble_eq_true rfl, Nat.le_of_ble_eq_true rfl⟩ dX6_keep_15 ?_
  refine A_iload C (pc := 18) 2 rfl dX6_keep_18 ?_
  refine A_aload_n C (pc := 20) 1 rfl dX6_keep_20 ?_
  refine A_g3_0 C (pc := 21) ((of_decide_eq_true k3)) kf_X6_56 dX6_keep_21 ?_
  refine A_isub C (pc := 24) dX6_keep_24 ?_
  exact X_ri C (pc := 25) hr hk rfl ⟨Nat.le_of_ble_eq_true rfl, Nat.le_of_ble_eq_true rfl⟩ dX6_keep_25 hf
set_option maxRecDepth 100000 in
theorem m_X6_rowAt (l : Launch) (hl9 : l.stackTraces = false) (B : Nat) (D : va_G) (Y : Nat → ClassId) (o : Ou) {M : Mem} {x1 : Int32} {x2 : Int32} {r : (String ⊕ Int32) × Mem}  (hf : f_X6_rowAt M x1 x2 = some r) : XW l yX6_rowAt cX6_rowAt 4 (some .int) rm_X6_rowAt 2 12 B D Y o [.ref (B + 0), .int x1, .int x2] M tvI r := by
  refine ofAtX (L0 := [(0, .ref (B + 0)), (1, .int x1), (2, .int x2)]) (by decide +kernel) (Nat.le_of_ble_eq_true rfl) rfl (fun p e s m args below meth c C hX hr hk hout => ?_)
  dsimp only [f_X6_rowAt] at hf
  refine A_aload_n C (pc := 0) 0 rfl dX6_rowAt_0 ?_
  refine A_iload_n C (pc := 1) 1 rfl dX6_rowAt_1 ?_
  obtain ⟨z2, h2, hf⟩ := bd_i hf
  refine X_callV C (pc := 2) hX hk hout (A := [.int x1]) (rest := []) kl_X6_48 ky_X6_orderAt kv_X6_orderAt (m_X6_orderAt l hl9 B D Y o  h2) (by decide) rfl rfl rfl rfl (Nat.le_of_ble_eq_true rfl) ⟨rfl, rfl, Nat.le_of_ble_eq_true rfl, Nat.le_of_ble_eq_true rfl⟩ ⟨Nat.le_of_ble_eq_true rfl, Nat.le_of_ble_eq_true rfl⟩ ⟨Nat.le_of_ble_eq_true rfl, Nat.le_of_ble_eq_true rfl⟩ dX6_rowAt_2 hf (fun v2 _ hf => ?_)
  obtain ⟨k2, hf⟩ := chk_i hf
  refine A_astore_n C (pc := 5) [(0, .ref (B + 0)), (2, .int x2), (3, .ref (B + v2))] rfl (by decide) [1, 3, 0] rfl dX6_rowAt_5 ?_
  refine A_aload_n C (pc := 6) 0 rfl dX6_rowAt_6 ?_
  refine A_aload_n C (pc := 7) 2 rfl dX6_rowAt_7 ?_
  refine A_iload_n C (pc := 8) 1 rfl dX6_rowAt_8 ?_
  obtain ⟨z9, h9, hf⟩ := bd_i hf
  refine X_callV C (pc := 9) hX hk hout (A := [.ref (B + v2), .int x2]) (rest := []) kl_X6_117 ky_X6_layOutRow kv_X6_layOutRow (m_X6_layOutRow l hl9 B D Y o ((of_decide_eq_true k2)) h9) (by decide) rfl rfl rfl rfl (Nat.le_of_ble_eq_true rfl) ⟨rfl, rfl, Nat.le_of_ble_eq_true rfl, Nat.le_of_ble_eq_true rfl⟩ ⟨Nat.le_of_ble_eq_true rfl, Nat.le_of_ble_eq_true rfl⟩ ⟨Nat.le_of_ble_eq_true rfl, Nat.le_of_ble_eq_true rfl⟩ dX6_rowAt_9 hf (fun v9 _ hf => ?_)
  refine A_aload_n C (pc := 12) 0 rfl dX6_rowAt_12 ?_
  refine A_g6_3 C (pc := 13) kf_X6_30 dX6_rowAt_13 ?_
  refine A_aload_n C (pc := 16) 2 rfl dX6_rowAt_16 ?_
  obtain ⟨z17, h17, hf⟩ := bd_i hf
  refine A_callV1 C (pc := 17) (A := [.ref (B + v2)]) (rest := []) k_X6_232 ky_X4_lineAsNumber kv_X4_lineAsNumber (m_X4_lineAsNumber l B D Y o ((show kd 20 = 4 from rfl)) ((of_decide_eq_true k2)) h17) (kR ((show kd 20 = 4 from rfl))).1 (ent4 ((show kd 20 = 4 from rfl))) rfl rfl rfl (Nat.le_of_ble_eq_true rfl) ⟨rfl, rfl, Nat.le_of_ble_eq_true rfl, Nat.le_of_ble_eq_true rfl⟩ ⟨Nat.le_of_ble_eq_true rfl, Nat.le_of_ble_eq_true rfl⟩ dX6_rowAt_17 ?_
  exact X_ri C (pc := 20) hr hk rfl ⟨Nat.le_of_ble_eq_true rfl, Nat.le_of_ble_eq_true rfl⟩ dX6_rowAt_20 hf
set_option maxRecDepth 100000 in
theorem m_X6_level (l : Launch) (hl9 : l.stackTraces = false) (B : Nat) (D : va_G) (Y : Nat → ClassId) (o : Ou) {M : Mem} {x1 : Int32} {x2 : Int32} {r : (String ⊕ Int32) × Mem}  (hf : f_X6_level M x1 x2 = some r) : XW l yX6_level cX6_level 4 (some .int) rm_X6_level 2 12 B D Y o [.ref (B + 0), .int x1, .int x2] M tvI r := by
  refine ofAtX (L0 := [(0, .ref (B + 0)), (1, .int x1), (2, .int x2)]) (by decide +kernel) (Nat.le_of_ble_eq_true rfl) rfl (fun p e s m args below meth c C hX hr hk hout => ?_)
  dsimp only [f_X6_level] at hf
  refine A_aload_n C (pc := 0) 0 rfl dX6_level_0 ?_
  refine A_iload_n C (pc := 1) 1 rfl dX6_level_1 ?_
  refine A_iload_n C (pc := 2) 2 rfl dX6_level_2 ?_
  obtain ⟨z3, h3, hf⟩ := bd_i hf
  refine X_callV C (pc := 3) hX hk hout (A := [.int x1, .int x2]) (rest := []) kl_X6_84 ky_X6_orderWith kv_X6_orderWith (m_X6_orderWith l hl9 B D Y o  h3) (by decide) rfl rfl rfl rfl (Nat.le_of_ble_eq_true rfl) ⟨rfl, rfl, Nat.le_of_ble_eq_true rfl, Nat.le_of_ble_eq_true rfl⟩ ⟨Nat.le_of_ble_eq_true rfl, Nat.le_of_ble_eq_true rfl⟩ ⟨Nat.le_of_ble_eq_true rfl, Nat.le_of_ble_eq_true rfl⟩ dX6_level_3 hf (fun v3 _ hf => ?_)
  obtain ⟨k3, hf⟩ := chk_i hf
  refine A_astore_n C (pc := 6) [(2, .int x2), (3, .ref (B + v3))] rfl (by decide) [3, 0] rfl dX6_level_6 ?_
  refine A_aload_n C (pc := 7) 1 rfl dX6_level_7 ?_
  refine A_aload_n C (pc := 8) 1 rfl dX6_level_8 ?_
  refine A_g3_1 C (pc := 9) ((of_decide_eq_true k3)) kf_X6_149 dX6_level_9 ?_
  refine A_iload_n C (pc := 12) 0 rfl dX6_level_12 ?_
  obtain ⟨c13, hf⟩ := chk_i hf
  refine A_iald C (pc := 13) (iO1 (of_decide_eq_true k3)) c13 dX6_level_13 ?_
  obtain ⟨z14, h14, hf⟩ := bd_i hf
  refine A_callS1 C (pc := 14) (A := [.ref (B + v3), .int (z3.2 (v3 + 1) x2.toNatClampNeg)]) (rest := []) k_X6_172 ky_X0_longestWithin ks_X0_longestWithin (m_X0_longestWithin l B D Y o ((of_decide_eq_true k3)) h14) rfl rfl (Nat.le_of_ble_eq_true rfl) ⟨rfl, rfl, Nat.le_of_ble_eq_true rfl, Nat.le_of_ble_eq_true rfl⟩ ⟨Nat.le_of_ble_eq_true rfl, Nat.le_of_ble_eq_true rfl⟩ dX6_level_14 ?_
  refine A_iconst C (pc := 17) ic_1 dX6_level_17 ?_
  refine A_iadd C (pc := 18) dX6_level_18 ?_
  exact X_ri C (pc := 19) hr hk rfl ⟨Nat.le_of_ble_eq_true rfl, Nat.le_of_ble_eq_true rfl⟩ dX6_level_19 hf
end WX
