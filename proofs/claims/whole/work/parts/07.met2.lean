section W2
variable {p : Program} {l : Launch} {e : Env} {s : State} {m : MethodId} {args : Array Value} {below : List Frame} {meth : Method} {c : Code} {B : Nat} {D : va_G} {Y : Nat → ClassId} {o : Ou}
set_option maxRecDepth 100000 in
theorem m_X7_drop (l : Launch) (B : Nat) (D : va_G) (Y : Nat → ClassId) (o : Ou) {M : Mem} {x1 : Int32} {x2 : Int32} {r : Int32 × Mem}  (hf : f_X7_drop M x1 x2 = some r) : MW l yX7_drop cX7_drop 4 (some .int) rm_X7_drop B D Y o [.ref (B + 47), .int x1, .int x2] M r.2 (some (.int r.1)) := by
  refine ofAt (L0 := [(0, .ref (B + 47)), (1, .int x1), (2, .int x2)]) (by decide +kernel) (Nat.le_of_ble_eq_true rfl) rfl (fun p e s m args below meth c C hr hk => ?_)
  dsimp only [f_X7_drop] at hf
  refine A_aload_n C (pc := 0) 0 rfl dX7_drop_0 ?_
  refine A_aload_n C (pc := 1) 0 rfl dX7_drop_1 ?_
  refine A_iload_n C (pc := 2) 1 rfl dX7_drop_2 ?_
  refine A_iload_n C (pc := 3) 2 rfl dX7_drop_3 ?_
  obtain ⟨z4, h4, hf⟩ := bd_i hf
  refine A_callV1 C (pc := 4) (A := [.int x1, .int x2]) (rest := [.ref (B + 47)]) k_X7_66 ky_X7_isThing kv_X7_isThing (m_X7_isThing l B D Y o  h4) (by decide) rfl rfl rfl rfl (Nat.le_of_ble_eq_true rfl) ⟨rfl, rfl, Nat.le_of_ble_eq_true rfl, Nat.le_of_ble_eq_true rfl⟩ ⟨Nat.zero_le _, Nat.zero_le _⟩ dX7_drop_4 ?_
  refine A_iconst C (pc := 7) ic_1 dX7_drop_7 ?_
  obtain ⟨z8, h8, hf⟩ := bd_i hf
  refine A_callV1 C (pc := 8) (A := [.int z4, .int 1]) (rest := []) k_X7_51 ky_X7_lets kv_X7_lets (m_X7_lets l B D Y o  h8) (by decide) rfl rfl rfl rfl (Nat.le_of_ble_eq_true rfl) ⟨rfl, rfl, Nat.le_of_ble_eq_true rfl, Nat.le_of_ble_eq_true rfl⟩ ⟨Nat.zero_le _, Nat.zero_le _⟩ dX7_drop_8 ?_
  refine A_if_ne C (pc := 11) 16 (by decide) dX7_drop_11 hf (fun _ hf => ?_) (fun _ hf => ?_)
  · refine A_aload_n C (pc := 16) 0 rfl dX7_drop_16 ?_
    refine A_g7_1 C (pc := 17) kf_X7_15 dX7_drop_17 ?_
    refine A_iload_n C (pc := 20) 1 rfl dX7_drop_20 ?_
    obtain ⟨c21, hf⟩ := chk_i hf
    refine A_aV C (pc := 21) c21 dX7_drop_21 ?_
    refine A_iload_n C (pc := 22) 2 rfl dX7_drop_22 ?_
    obtain ⟨c23, hf⟩ := chk_i hf
    refine A_iald C (pc := 23) (iVal (inb_lt c21)) c23 dX7_drop_23 ?_
    obtain ⟨v24, e24, hf⟩ := bd_i hf
    refine A_nmI e24 ?_
    refine A_istore_n C (pc := 24) [(0, .ref (B + 47)), (1, .int x1), (2, .int x2), (3, .int v24)] rfl (by decide) [1, 2, 3, 0] rfl dX7_drop_24 ?_
    refine A_aload_n C (pc := 25) 0 rfl dX7_drop_25 ?_
    refine A_iload_n C (pc := 26) 1 rfl dX7_drop_26 ?_
    refine A_iconst C (pc := 27) ic_1 dX7_drop_27 ?_
    refine A_aload_n C (pc := 28) 0 rfl dX7_drop_28 ?_
    refine A_g7_0 C (pc := 29) kf_X7_9 dX7_drop_29 ?_
    refine A_iload_n C (pc := 32) 1 rfl dX7_drop_32 ?_
    obtain ⟨c33, hf⟩ := chk_i hf
    refine A_iald C (pc := 33) (show IA 48 5 from ⟨rfl, rfl⟩) c33 dX7_drop_33 ?_
    refine A_ishl C (pc := 34) dX7_drop_34 ?_
    refine A_iconst C (pc := 35) ic_1 dX7_drop_35 ?_
    refine A_isub C (pc := 36) dX7_drop_36 ?_
    refine A_iconst C (pc := 37) ic_1 dX7_drop_37 ?_
    refine A_iload_n C (pc := 38) 2 rfl dX7_drop_38 ?_
    refine A_ishl C (pc := 39) dX7_drop_39 ?_
    refine A_isub C (pc := 40) dX7_drop_40 ?_
    obtain ⟨z41, h41, hf⟩ := bd_i hf
    refine A_callV0 C (pc := 41) (A := [.int x1, .int ((((1 : Int32) <<< ((z8.2 48 x1.toNatClampNeg) &&& 31)) - 1) - ((1 : Int32) <<< (x2 &&& 31)))]) (rest := []) k_X7_69 ky_X7_stay kv_X7_stay (m_X7_stay l B D Y o  h41) (by decide) rfl rfl rfl rfl (Nat.le_of_ble_eq_true rfl) ⟨rfl, rfl, Nat.le_of_ble_eq_true rfl, Nat.le_of_ble_eq_true rfl⟩ ⟨Nat.zero_le _, Nat.zero_le _⟩ dX7_drop_41 ?_
    refine A_iload_n C (pc := 44) 3 rfl dX7_drop_44 ?_
    exact R_iM C (pc := 45) hr hk rfl dX7_drop_45 hf
  · refine A_iconst C (pc := 14) ic_0 dX7_drop_14 ?_
    exact R_iM C (pc := 15) hr hk rfl dX7_drop_15 hf
set_option maxRecDepth 100000 in
theorem m_X7_keep (l : Launch) (B : Nat) (D : va_G) (Y : Nat → ClassId) (o : Ou) {M : Mem} {x1 : Int32} {x2 : Int32} {r : Int32 × Mem}  (hf : f_X7_keep M x1 x2 = some r) : MW l yX7_keep cX7_keep 4 (some .int) rm_X7_keep B D Y o [.ref (B + 47), .int x1, .int x2] M r.2 (some (.int r.1)) := by
  refine ofAt (L0 := [(0, .ref (B + 47)), (1, .int x1), (2, .int x2)]) (by decide +kernel) (Nat.le_of_ble_eq_true rfl) rfl (fun p e s m args below meth c C hr hk => ?_)
  dsimp only [f_X7_keep] at hf
  refine A_aload_n C (pc := 0) 0 rfl dX7_keep_0 ?_
  refine A_iload_n C (pc := 1) 1 rfl dX7_keep_1 ?_
  obtain ⟨z2, h2, hf⟩ := bd_i hf
  refine A_callS1 C (pc := 2) (A := [.int x1]) (rest := [.ref (B + 47)]) k_X7_43 ky_X7_isOrder ks_X7_isOrder (m_X7_isOrder l B D Y o  h2) rfl rfl (Nat.le_of_ble_eq_true rfl) ⟨rfl, rfl, Nat.le_of_ble_eq_true rfl, Nat.le_of_ble_eq_true rfl⟩ ⟨Nat.zero_le _, Nat.zero_le _⟩ dX7_keep_2 ?_
  refine A_iconst C (pc := 5) ic_1 dX7_keep_5 ?_
  obtain ⟨z6, h6, hf⟩ := bd_i hf
  refine A_callV1 C (pc := 6) (A := [.int z2, .int 1]) (rest := []) k_X7_51 ky_X7_lets kv_X7_lets (m_X7_lets l B D Y o  h6) (by decide) rfl rfl rfl rfl (Nat.le_of_ble_eq_true rfl) ⟨rfl, rfl, Nat.le_of_ble_eq_true rfl, Nat.le_of_ble_eq_true rfl⟩ ⟨Nat.zero_le _, Nat.zero_le _⟩ dX7_keep_6 ?_
  refine A_if_eq C (pc := 9) 26 (by decide) dX7_keep_9 hf (fun _ hf => ?_) (fun _ hf => ?_)
  · refine A_iconst C (pc := 26) ic_0 dX7_keep_26 ?_
    exact R_iM C (pc := 27) hr hk rfl dX7_keep_27 hf
  · refine A_aload_n C (pc := 12) 0 rfl dX7_keep_12 ?_
    refine A_aload_n C (pc := 13) 0 rfl dX7_keep_13 ?_
    refine A_iload_n C (pc := 14) 1 rfl dX7_keep_14 ?_
    refine A_iload_n C (pc := 15) 2 rfl dX7_keep_15 ?_
    obtain ⟨z16, h16, hf⟩ := bd_i hf
    refine A_callV1 C (pc := 16) (A := [.int x1, .int x2]) (rest := [.ref (B + 47)]) k_X7_72 ky_X7_isSet kv_X7_isSet (m_X7_isSet l B D Y o  h16) (by decide) rfl rfl rfl rfl (Nat.le_of_ble_eq_true rfl) ⟨rfl, rfl, Nat.le_of_ble_eq_true rfl, Nat.le_of_ble_eq_true rfl⟩ ⟨Nat.zero_le _, Nat.zero_le _⟩ dX7_keep_16 ?_
    refine A_iconst C (pc := 19) ic_2 dX7_keep_19 ?_
    obtain ⟨z20, h20, hf⟩ := bd_i hf
    refine A_callV1 C (pc := 20) (A := [.int z16, .int 2]) (rest := []) k_X7_51 ky_X7_lets kv_X7_lets (m_X7_lets l B D Y o  h20) (by decide) rfl rfl rfl rfl (Nat.le_of_ble_eq_true rfl) ⟨rfl, rfl, Nat.le_of_ble_eq_true rfl, Nat.le_of_ble_eq_true rfl⟩ ⟨Nat.zero_le _, Nat.zero_le _⟩ dX7_keep_20 ?_
    refine A_if_ne C (pc := 23) 28 (by decide) dX7_keep_23 hf (fun _ hf => ?_) (fun _ hf => ?_)
    · refine A_aload_n C (pc := 28) 0 rfl dX7_keep_28 ?_
      refine A_g7_0 C (pc := 29) kf_X7_9 dX7_keep_29 ?_
      refine A_iload_n C (pc := 32) 1 rfl dX7_keep_32 ?_
      obtain ⟨c33, hf⟩ := chk_i hf
      refine A_iald C (pc := 33) (show IA 48 5 from ⟨rfl, rfl⟩) c33 dX7_keep_33 ?_
      obtain ⟨v34, e34, hf⟩ := bd_i hf
      refine A_nmI e34 ?_
      refine A_istore_n C (pc := 34) [(0, .ref (B + 47)), (1, .int x1), (2, .int x2), (3, .int v34)] rfl (by decide) [1, 2, 3, 0] rfl dX7_keep_34 ?_
      refine A_aload_n C (pc := 35) 0 rfl dX7_keep_35 ?_
      refine A_iload_n C (pc := 36) 1 rfl dX7_keep_36 ?_
      refine A_iload_n C (pc := 37) 2 rfl dX7_keep_37 ?_
      obtain ⟨z38, h38, hf⟩ := bd_i hf
      refine A_callV0 C (pc := 38) (A := [.int x1, .int x2]) (rest := []) k_X7_69 ky_X7_stay kv_X7_stay (m_X7_stay l B D Y o  h38) (by decide) rfl rfl rfl rfl (Nat.le_of_ble_eq_true rfl) ⟨rfl, rfl, Nat.le_of_ble_eq_true rfl, Nat.le_of_ble_eq_true rfl⟩ ⟨Nat.zero_le _, Nat.zero_le _⟩ dX7_keep_38 ?_
      refine A_iload_n C (pc := 41) 3 rfl dX7_keep_41 ?_
      refine A_aload_n C (pc := 42) 0 rfl dX7_keep_42 ?_
      refine A_g7_0 C (pc := 43) kf_X7_9 dX7_keep_43 ?_
      refine A_iload_n C (pc := 46) 1 rfl dX7_keep_46 ?_
      obtain ⟨c47, hf⟩ := chk_i hf
      refine A_iald C (pc := 47) (show IA 48 5 from ⟨rfl, rfl⟩) c47 dX7_keep_47 ?_
      refine A_isub C (pc := 48) dX7_keep_48 ?_
      exact R_iM C (pc := 49) hr hk rfl dX7_keep_49 hf
    · refine A_iconst C (pc := 26) ic_0 dX7_keep_26 ?_
      exact R_iM C (pc := 27) hr hk rfl dX7_keep_27 hf
set_option maxRecDepth 100000 in
theorem m_X7_setValue (l : Launch) (B : Nat) (D : va_G) (Y : Nat → ClassId) (o : Ou) {M : Mem} {x1 : Int32} {x2 : Int32} {x3 : Int32} {r : Int32 × Mem}  (hf : f_X7_setValue M x1 x2 x3 = some r) : MW l yX7_setValue cX7_setValue 5 (some .int) rm_X7_setValue B D Y o [.ref (B + 47), .int x1, .int x2, .int x3] M r.2 (some (.int r.1)) := by
  refine ofAt (L0 := [(0, .ref (B + 47)), (1, .int x1), (2, .int x2), (3, .int x3)]) (by decide +kernel) (Nat.le_of_ble_eq_true rfl) rfl (fun p e s m args below meth c C hr hk => ?_)
  dsimp only [f_X7_setValue] at hf
  refine A_aload_n C (pc := 0) 0 rfl dX7_setValue_0 ?_
  refine A_aload_n C (pc := 1) 0 rfl dX7_setValue_1 ?_
  refine A_iload_n C (pc := 2) 1 rfl dX7_setValue_2 ?_
  refine A_iload_n C (pc := 3) 2 rfl dX7_setValue_3 ?_
  obtain ⟨z4, h4, hf⟩ := bd_i hf
  refine A_callV1 C (pc := 4) (A := [.int x1, .int x2]) (rest := [.ref (B + 47)]) k_X7_66 ky_X7_isThing kv_X7_isThing (m_X7_isThing l B D Y o  h4) (by decide) rfl rfl rfl rfl (Nat.le_of_ble_eq_true rfl) ⟨rfl, rfl, Nat.le_of_ble_eq_true rfl, Nat.le_of_ble_eq_true rfl⟩ ⟨Nat.zero_le _, Nat.zero_le _⟩ dX7_setValue_4 ?_
  refine A_iconst C (pc := 7) ic_1 dX7_setValue_7 ?_
  obtain ⟨z8, h8, hf⟩ := bd_i hf
  refine A_callV1 C (pc := 8) (A := [.int z4, .int 1]) (rest := []) k_X7_51 ky_X7_lets kv_X7_lets (m_X7_lets l B D Y o  h8) (by decide) rfl rfl rfl rfl (Nat.le_of_ble_eq_true rfl) ⟨rfl, rfl, Nat.le_of_ble_eq_true rfl, Nat.le_of_ble_eq_true rfl⟩ ⟨Nat.zero_le _, Nat.zero_le _⟩ dX7_setValue_8 ?_
  refine A_if_eq C (pc := 11) 32 (by decide) dX7_setValue_11 hf (fun _ hf => ?_) (fun _ hf => ?_)
  · refine A_iconst C (pc := 32) ic_0 dX7_setValue_32 ?_
    exact R_iM C (pc := 33) hr hk rfl dX7_setValue_33 hf
  · refine A_aload_n C (pc := 14) 0 rfl dX7_setValue_14 ?_
    refine A_iload_n C (pc := 15) 3 rfl dX7_setValue_15 ?_
    refine A_sipush C (pc := 16) sc_m1000 dX7_setValue_16 ?_
    refine A_sipush C (pc := 19) sc_1000 dX7_setValue_19 ?_
    obtain ⟨z22, h22, hf⟩ := bd_i hf
    refine A_callS1 C (pc := 22) (A := [.int x3, .int ((-1000)), .int 1000]) (rest := [.ref (B + 47)]) k_X7_39 ky_X7_in ks_X7_in (m_X7_in l B D Y o  h22) rfl rfl (Nat.le_of_ble_eq_true rfl) ⟨rfl, rfl, Nat.le_of_ble_eq_true rfl, Nat.le_of_ble_eq_true rfl⟩ ⟨Nat.zero_le _, Nat.zero_le _⟩ dX7_setValue_22 ?_
    refine A_iconst C (pc := 25) ic_2 dX7_setValue_25 ?_
    obtain ⟨z26, h26, hf⟩ := bd_i hf
    refine A_callV1 C (pc := 26) (A := [.int z22, .int 2]) (rest := []) k_X7_51 ky_X7_lets kv_X7_lets (m_X7_lets l B D Y o  h26) (by decide) rfl rfl rfl rfl (Nat.le_of_ble_eq_true rfl) ⟨rfl, rfl, Nat.le_of_ble_eq_true rfl, Nat.le_of_ble_eq_true rfl⟩ ⟨Nat.zero_le _, Nat.zero_le _⟩ dX7_setValue_26 ?_
    refine A_if_ne C (pc := 29) 34 (by decide) dX7_setValue_29 hf (fun _ hf => ?_) (fun _ hf => ?_)
    · refine A_aload_n C (pc := 34) 0 rfl dX7_setValue_34 ?_
      refine A_g7_1 C (pc := 35) kf_X7_15 dX7_setValue_35 ?_
      refine A_iload_n C (pc := 38) 1 rfl dX7_setValue_38 ?_
      obtain ⟨c39, hf⟩ := chk_i hf
      refine A_aV C (pc := 39) c39 dX7_setValue_39 ?_
      refine A_iload_n C (pc := 40) 2 rfl dX7_setValue_40 ?_
      obtain ⟨c41, hf⟩ := chk_i hf
      refine A_iald C (pc := 41) (iVal (inb_lt c39)) c41 dX7_setValue_41 ?_
      obtain ⟨v42, e42, hf⟩ := bd_i hf
      refine A_nmI e42 ?_
      refine A_istore C (pc := 42) [(0, .ref (B + 47)), (1, .int x1), (2, .int x2), (3, .int x3), (4, .int v42)] (by decide) [1, 2, 3, 4, 0] rfl dX7_setValue_42 ?_
      refine A_aload_n C (pc := 44) 0 rfl dX7_setValue_44 ?_
      refine A_g7_1 C (pc := 45) kf_X7_15 dX7_setValue_45 ?_
      refine A_iload_n C (pc := 48) 1 rfl dX7_setValue_48 ?_
      obtain ⟨c49, hf⟩ := chk_i hf
      refine A_aV C (pc := 49) c49 dX7_setValue_49 ?_
      refine A_iload_n C (pc := 50) 2 rfl dX7_setValue_50 ?_
      refine A_iload_n C (pc := 51) 3 rfl dX7_setValue_51 ?_
      obtain ⟨c52, hf⟩ := chk_i hf
      obtain ⟨M52, e52, hf⟩ := bd_i hf
      refine A_iast C (pc := 52) (iVal (inb_lt c49)) c52 dX7_setValue_52 ?_
      refine A_nmM e52 ?_
      refine A_iload C (pc := 53) 4 rfl dX7_setValue_53 ?_
      exact R_iM C (pc := 55) hr hk rfl dX7_setValue_55 hf
    · refine A_iconst C (pc := 32) ic_0 dX7_setValue_32 ?_
      exact R_iM C (pc := 33) hr hk rfl dX7_setValue_33 hf
set_option maxRecDepth 100000 in
theorem m_X7_isUpTo (l : Launch) (B : Nat) (D : va_G) (Y : Nat → ClassId) (o : Ou) {M : Mem} {x1 : Int32} {x2 : Int32} {x3 : Int32} {r : Int32}  (hf : f_X7_isUpTo M x1 x2 x3 = some r) : MW l yX7_isUpTo cX7_isUpTo 4 (some .boolean) rm_X7_isUpTo B D Y o [.ref (B + 47), .int x1, .int x2, .int x3] M M (some (.int r)) := by
  refine ofAt (L0 := [(0, .ref (B + 47)), (1, .int x1), (2, .int x2), (3, .int x3)]) (by decide +kernel) (Nat.le_of_ble_eq_true rfl) rfl (fun p e s m args below meth c C hr hk => ?_)
  dsimp only [f_X7_isUpTo] at hf
  refine A_iload_n C (pc := 0) 2 rfl dX7_isUpTo_0 ?_
  refine A_iload_n C (pc := 1) 3 rfl dX7_isUpTo_1 ?_
  refine A_icmp_eq C (pc := 2) 18 (by decide) dX7_isUpTo_2 hf (fun _ hf => ?_) (fun _ hf => ?_)
  · refine A_iconst C (pc := 18) ic_1 dX7_isUpTo_18 ?_
    refine A_goto C (pc := 19) 23 (by decide) dX7_isUpTo_19 ?_
    exact R_iP C (pc := 23) hr hk nz_1 dX7_isUpTo_23 hf
  · refine A_aload_n C (pc := 5) 0 rfl dX7_isUpTo_5 ?_
    refine A_g7_2 C (pc := 6) kf_X7_20 dX7_isUpTo_6 ?_
    refine A_iload_n C (pc := 9) 1 rfl dX7_isUpTo_9 ?_
    obtain ⟨c10, hf⟩ := chk_i hf
    refine A_aB C (pc := 10) c10 dX7_isUpTo_10 ?_
    refine A_iload_n C (pc := 11) 2 rfl dX7_isUpTo_11 ?_
    obtain ⟨c12, hf⟩ := chk_i hf
    refine A_aR C (pc := 12) (kBel (inb_lt c10)) c12 dX7_isUpTo_12 ?_
    refine A_iload_n C (pc := 13) 3 rfl dX7_isUpTo_13 ?_
    obtain ⟨c14, hf⟩ := chk_i hf
    refine A_zald C (pc := 14) (kRow (kBel (inb_lt c10)) (inb_lt c12)) c14 dX7_isUpTo_14 ?_
    refine A_if_eq C (pc := 15) 22 (by decide) dX7_isUpTo_15 hf (fun _ hf => ?_) (fun _ hf => ?_)
    · refine A_iconst C (pc := 22) ic_0 dX7_isUpTo_22 ?_
      exact R_iP C (pc := 23) hr hk nz_0 dX7_isUpTo_23 hf
    · refine A_iconst C (pc := 18) ic_1 dX7_isUpTo_18 ?_
      refine A_goto C (pc := 19) 23 (by decide) dX7_isUpTo_19 ?_
      exact R_iP C (pc := 23) hr hk nz_1 dX7_isUpTo_23 hf
set_option maxRecDepth 100000 in
theorem w_X7_put_L70 {x1 : Int32} {x2 : Int32} {x3 : Int32} {x4 : Int32} {x5 : Int32} {r : Int32 × Mem} (C : Cx p s m args c cX7_put 7 RX7 B D Y) (hr : meth.sig.returnType = (some .int)) (hk : meth.locks = false)  {k56 : (Int32 × Mem) → Option (Int32 × Mem)} (hk56 : ∀ (x5 : Int32) (M : Mem), k56 (x5, M) = some r → At p l e rm_X7_put s m args below meth c 7 0 0 (QQ below args s B D Y r.2 o (some (.int r.1))) B D Y o 56 M [(0, .ref (B + 47)), (1, .int x1), (2, .int x2), (3, .int x3), (4, .int x4), (5, .int x5)] []) : ∀ (n : Nat) (x6 : Int32) (M : Mem), f_X7_put_L70 x1 x2 x3 x4 x5 k56 n (x6, M) = some r → At p l e rm_X7_put s m args below meth c 7 0 0 (QQ below args s B D Y r.2 o (some (.int r.1))) B D Y o 70 M [(0, .ref (B + 47)), (1, .int x1), (2, .int x2), (3, .int x3), (4, .int x4), (5, .int x5), (6, .int x6)] [] := by
  intro n
  induction n with
  | zero => intro x6 M hf; exact nomatch (show (none : Option (Int32 × Mem)) = some r from hf)
  | succ n hk70 =>
    intro x6 M hf
    replace hf : g_X7_put_L70 x1 x2 x3 x4 x5 k56 (f_X7_put_L70 x1 x2 x3 x4 x5 k56 n) (x6, M) = some r := hf
    dsimp only [g_X7_put_L70] at hf
    refine A_iload C (pc := 70) 6 rfl dX7_put_70 ?_
    refine A_aload_n C (pc := 72) 0 rfl dX7_put_72 ?_
    refine A_g7_0 C (pc := 73) kf_X7_9 dX7_put_73 ?_
    refine A_iload_n C (pc := 76) 1 rfl dX7_put_76 ?_
    obtain ⟨c77, hf⟩ := chk_i hf
    refine A_iald C (pc := 77) (show IA 48 5 from ⟨rfl, rfl⟩) c77 dX7_put_77 ?_
    refine A_icmp_ge C (pc := 78) 122 (by decide) dX7_put_78 hf (fun _ hf => ?_) (fun _ hf => ?_)
    · refine A_iinc C (pc := 122) (k0 := 5) [(0, .ref (B + 47)), (1, .int x1), (2, .int x2), (3, .int x3), (4, .int x4), (5, .int (x5 + 1))] rfl ic_1 (by decide) [1, 2, 3, 4, 5, 0] rfl dX7_put_122 ?_
      refine A_goto C (pc := 125) 56 (by decide) dX7_put_125 ?_
      exact hk56 _ _ hf
    · refine A_aload_n C (pc := 81) 0 rfl dX7_put_81 ?_
      refine A_iload_n C (pc := 82) 1 rfl dX7_put_82 ?_
      refine A_iload C (pc := 83) 5 rfl dX7_put_83 ?_
      refine A_iload_n C (pc := 85) 2 rfl dX7_put_85 ?_
      obtain ⟨z86, h86, hf⟩ := bd_i hf
      refine A_callV1 C (pc := 86) (A := [.int x1, .int x5, .int x2]) (rest := []) k_X7_75 ky_X7_isUpTo kv_X7_isUpTo (m_X7_isUpTo l B D Y o  h86) (by decide) rfl rfl rfl rfl (Nat.le_of_ble_eq_true rfl) ⟨rfl, rfl, Nat.le_of_ble_eq_true rfl, Nat.le_of_ble_eq_true rfl⟩ ⟨Nat.zero_le _, Nat.zero_le _⟩ dX7_put_86 ?_
      refine A_if_eq C (pc := 89) 116 (by decide) dX7_put_89 hf (fun _ hf => ?_) (fun _ hf => ?_)
      · refine A_iinc C (pc := 116) (k0 := 6) [(0, .ref (B + 47)), (1, .int x1), (2, .int x2), (3, .int x3), (4, .int x4), (5, .int x5), (6, .int (x6 + 1))] rfl ic_1 (by decide) [1, 2, 3, 4, 5, 6, 0] rfl dX7_put_116 ?_
        refine A_goto C (pc := 119) 70 (by decide) dX7_put_119 ?_
        exact hk70 _ _ hf
      · refine A_aload_n C (pc := 92) 0 rfl dX7_put_92 ?_
        refine A_iload_n C (pc := 93) 1 rfl dX7_put_93 ?_
        refine A_iload_n C (pc := 94) 3 rfl dX7_put_94 ?_
        refine A_iload C (pc := 95) 6 rfl dX7_put_95 ?_
        obtain ⟨z97, h97, hf⟩ := bd_i hf
        refine A_callV1 C (pc := 97) (A := [.int x1, .int x3, .int x6]) (rest := []) k_X7_75 ky_X7_isUpTo kv_X7_isUpTo (m_X7_isUpTo l B D Y o  h97) (by decide) rfl rfl rfl rfl (Nat.le_of_ble_eq_true rfl) ⟨rfl, rfl, Nat.le_of_ble_eq_true rfl, Nat.le_of_ble_eq_true rfl⟩ ⟨Nat.zero_le _, Nat.zero_le _⟩ dX7_put_97 ?_
        refine A_if_eq C (pc := 100) 116 (by decide) dX7_put_100 hf (fun _ hf => ?_) (fun _ hf => ?_)
        · refine A_iinc C (pc := 116) (k0 := 6) [(0, .ref (B + 47)), (1, .int x1), (2, .int x2), (3, .int x3), (4, .int x4), (5, .int x5), (6, .int (x6 + 1))] rfl ic_1 (by decide) [1, 2, 3, 4, 5, 6, 0] rfl dX7_put_116 ?_
          refine A_goto C (pc := 119) 70 (by decide) dX7_put_119 ?_
          exact hk70 _ _ hf
        · refine A_aload_n C (pc := 103) 0 rfl dX7_put_103 ?_
          refine A_g7_2 C (pc := 104) kf_X7_20 dX7_put_104 ?_
          refine A_iload_n C (pc := 107) 1 rfl dX7_put_107 ?_
          obtain ⟨c108, hf⟩ := chk_i hf
          refine A_aB C (pc := 108) c108 dX7_put_108 ?_
          refine A_iload C (pc := 109) 5 rfl dX7_put_109 ?_
          obtain ⟨c111, hf⟩ := chk_i hf
          refine A_aR C (pc := 111) (kBel (inb_lt c108)) c111 dX7_put_111 ?_
          refine A_iload C (pc := 112) 6 rfl dX7_put_112 ?_
          refine A_iconst C (pc := 114) ic_1 dX7_put_114 ?_
          obtain ⟨c115, hf⟩ := chk_i hf
          obtain ⟨b115, hf⟩ := chk_i hf
          obtain ⟨M115, e115, hf⟩ := bd_i hf
          refine A_zast C (pc := 115) (kRow (kBel (inb_lt c108)) (inb_lt c111)) c115 b115 dX7_put_115 ?_
          refine A_nmM e115 ?_
          refine A_iinc C (pc := 116) (k0 := 6) [(0, .ref (B + 47)), (1, .int x1), (2, .int x2), (3, .int x3), (4, .int x4), (5, .int x5), (6, .int (x6 + 1))] rfl ic_1 (by decide) [1, 2, 3, 4, 5, 6, 0] rfl dX7_put_116 ?_
          refine A_goto C (pc := 119) 70 (by decide) dX7_put_119 ?_
          exact hk70 _ _ hf
set_option maxRecDepth 100000 in
theorem w_X7_put_L56 {x1 : Int32} {x2 : Int32} {x3 : Int32} {x4 : Int32} {r : Int32 × Mem} (C : Cx p s m args c cX7_put 7 RX7 B D Y) (hr : meth.sig.returnType = (some .int)) (hk : meth.locks = false)  : ∀ (n : Nat) (x5 : Int32) (M : Mem), f_X7_put_L56 x1 x2 x3 x4 n (x5, M) = some r → At p l e rm_X7_put s m args below meth c 7 0 0 (QQ below args s B D Y r.2 o (some (.int r.1))) B D Y o 56 M [(0, .ref (B + 47)), (1, .int x1), (2, .int x2), (3, .int x3), (4, .int x4), (5, .int x5)] [] := by
  intro n
  induction n with
  | zero => intro x5 M hf; exact nomatch (show (none : Option (Int32 × Mem)) = some r from hf)
  | succ n hk56 =>
    intro x5 M hf
    replace hf : g_X7_put_L56 x1 x2 x3 x4 (f_X7_put_L56 x1 x2 x3 x4 n) (x5, M) = some r := hf
    dsimp only [g_X7_put_L56] at hf
    refine A_iload C (pc := 56) 5 rfl dX7_put_56 ?_
    refine A_aload_n C (pc := 58) 0 rfl dX7_put_58 ?_
    refine A_g7_0 C (pc := 59) kf_X7_9 dX7_put_59 ?_
    refine A_iload_n C (pc := 62) 1 rfl dX7_put_62 ?_
    obtain ⟨c63, hf⟩ := chk_i hf
    refine A_iald C (pc := 63) (show IA 48 5 from ⟨rfl, rfl⟩) c63 dX7_put_63 ?_
    refine A_icmp_ge C (pc := 64) 128 (by decide) dX7_put_64 hf (fun _ hf => ?_) (fun _ hf => ?_)
    · refine A_aload_n C (pc := 128) 0 rfl dX7_put_128 ?_
      refine A_iload_n C (pc := 129) 1 rfl dX7_put_129 ?_
      obtain ⟨z130, h130, hf⟩ := bd_i hf
      refine A_callV1 C (pc := 130) (A := [.int x1]) (rest := []) k_X7_59 ky_X7_pairsOf kv_X7_pairsOf (m_X7_pairsOf l B D Y o  h130) (by decide) rfl rfl rfl rfl (Nat.le_of_ble_eq_true rfl) ⟨rfl, rfl, Nat.le_of_ble_eq_true rfl, Nat.le_of_ble_eq_true rfl⟩ ⟨Nat.zero_le _, Nat.zero_le _⟩ dX7_put_130 ?_
      refine A_iload C (pc := 133) 4 rfl dX7_put_133 ?_
      refine A_isub C (pc := 135) dX7_put_135 ?_
      exact R_iM C (pc := 136) hr hk rfl dX7_put_136 hf
    · refine A_iconst C (pc := 67) ic_0 dX7_put_67 ?_
      refine A_istore C (pc := 68) [(0, .ref (B + 47)), (1, .int x1), (2, .int x2), (3, .int x3), (4, .int x4), (5, .int x5), (6, .int 0)] (by decide) [1, 2, 3, 4, 5, 6, 0] rfl dX7_put_68 ?_
      exact w_X7_put_L70 C hr hk hk56 FU _ _  hf
set_option maxRecDepth 100000 in
theorem w_X7_put_L24 {M : Mem} {x1 : Int32} {x2 : Int32} {x3 : Int32} {y0 : Int32} {r : Int32 × Mem} (C : Cx p s m args c cX7_put 7 RX7 B D Y) (hr : meth.sig.returnType = (some .int)) (hk : meth.locks = false)  (hf : f_X7_put_L24 M x1 x2 x3 y0 = some r) : At p l e rm_X7_put s m args below meth c 7 0 0 (QQ below args s B D Y r.2 o (some (.int r.1))) B D Y o 24 M [(0, .ref (B + 47)), (1, .int x1), (2, .int x2), (3, .int x3)] [.int y0, .ref (B + 47)] := by
  dsimp only [f_X7_put_L24] at hf
  refine A_iconst C (pc := 24) ic_1 dX7_put_24 ?_
  obtain ⟨z25, h25, hf⟩ := bd_i hf
  refine A_callV1 C (pc := 25) (A := [.int y0, .int 1]) (rest := []) k_X7_51 ky_X7_lets kv_X7_lets (m_X7_lets l B D Y o  h25) (by decide) rfl rfl rfl rfl (Nat.le_of_ble_eq_true rfl) ⟨rfl, rfl, Nat.le_of_ble_eq_true rfl, Nat.le_of_ble_eq_true rfl⟩ ⟨Nat.zero_le _, Nat.zero_le _⟩ dX7_put_25 ?_
  refine A_if_ne C (pc := 28) 33 (by decide) dX7_put_28 hf (fun _ hf => ?_) (fun _ hf => ?_)
  · refine A_aload_n C (pc := 33) 0 rfl dX7_put_33 ?_
    refine A_iload_n C (pc := 34) 1 rfl dX7_put_34 ?_
    refine A_iload_n C (pc := 35) 3 rfl dX7_put_35 ?_
    refine A_iload_n C (pc := 36) 2 rfl dX7_put_36 ?_
    obtain ⟨z37, h37, hf⟩ := bd_i hf
    refine A_callV1 C (pc := 37) (A := [.int x1, .int x3, .int x2]) (rest := []) k_X7_75 ky_X7_isUpTo kv_X7_isUpTo (m_X7_isUpTo l B D Y o  h37) (by decide) rfl rfl rfl rfl (Nat.le_of_ble_eq_true rfl) ⟨rfl, rfl, Nat.le_of_ble_eq_true rfl, Nat.le_of_ble_eq_true rfl⟩ ⟨Nat.zero_le _, Nat.zero_le _⟩ dX7_put_37 ?_
    refine A_if_eq C (pc := 40) 46 (by decide) dX7_put_40 hf (fun _ hf => ?_) (fun _ hf => ?_)
    · refine A_aload_n C (pc := 46) 0 rfl dX7_put_46 ?_
      refine A_iload_n C (pc := 47) 1 rfl dX7_put_47 ?_
      obtain ⟨z48, h48, hf⟩ := bd_i hf
      refine A_callV1 C (pc := 48) (A := [.int x1]) (rest := []) k_X7_59 ky_X7_pairsOf kv_X7_pairsOf (m_X7_pairsOf l B D Y o  h48) (by decide) rfl rfl rfl rfl (Nat.le_of_ble_eq_true rfl) ⟨rfl, rfl, Nat.le_of_ble_eq_true rfl, Nat.le_of_ble_eq_true rfl⟩ ⟨Nat.zero_le _, Nat.zero_le _⟩ dX7_put_48 ?_
      refine A_istore C (pc := 51) [(0, .ref (B + 47)), (1, .int x1), (2, .int x2), (3, .int x3), (4, .int z48)] (by decide) [1, 2, 3, 4, 0] rfl dX7_put_51 ?_
      refine A_iconst C (pc := 53) ic_0 dX7_put_53 ?_
      refine A_istore C (pc := 54) [(0, .ref (B + 47)), (1, .int x1), (2, .int x2), (3, .int x3), (4, .int z48), (5, .int 0)] (by decide) [1, 2, 3, 4, 5, 0] rfl dX7_put_54 ?_
      exact w_X7_put_L56 C hr hk FU _ _  hf
    · refine A_bipush C (pc := 43) bc_m9 dX7_put_43 ?_
      exact R_iM C (pc := 45) hr hk rfl dX7_put_45 hf
  · refine A_iconst C (pc := 31) ic_0 dX7_put_31 ?_
    exact R_iM C (pc := 32) hr hk rfl dX7_put_32 hf
set_option maxRecDepth 100000 in
theorem w_X7_put_L23 {M : Mem} {x1 : Int32} {x2 : Int32} {x3 : Int32} {r : Int32 × Mem} (C : Cx p s m args c cX7_put 7 RX7 B D Y) (hr : meth.sig.returnType = (some .int)) (hk : meth.locks = false)  (hf : f_X7_put_L23 M x1 x2 x3 = some r) : At p l e rm_X7_put s m args below meth c 7 0 0 (QQ below args s B D Y r.2 o (some (.int r.1))) B D Y o 23 M [(0, .ref (B + 47)), (1, .int x1), (2, .int x2), (3, .int x3)] [.ref (B + 47)] := by
  dsimp only [f_X7_put_L23] at hf
  refine A_iconst C (pc := 23) ic_0 dX7_put_23 ?_
  exact w_X7_put_L24 C hr hk hf
set_option maxRecDepth 100000 in
theorem m_X7_put (l : Launch) (B : Nat) (D : va_G) (Y : Nat → ClassId) (o : Ou) {M : Mem} {x1 : Int32} {x2 : Int32} {x3 : Int32} {r : Int32 × Mem}  (hf : f_X7_put M x1 x2 x3 = some r) : MW l yX7_put cX7_put 7 (some .int) rm_X7_put B D Y o [.ref (B + 47), .int x1, .int x2, .int x3] M r.2 (some (.int r.1)) := by
  refine ofAt (L0 := [(0, .ref (B + 47)), (1, .int x1), (2, .int x2), (3, .int x3)]) (by decide +kernel) (Nat.le_of_ble_eq_true rfl) rfl (fun p e s m args below meth c C hr hk => ?_)
  dsimp only [f_X7_put] at hf
  refine A_aload_n C (pc := 0) 0 rfl dX7_put_0 ?_
  refine A_aload_n C (pc := 1) 0 rfl dX7_put_1 ?_
  refine A_iload_n C (pc := 2) 1 rfl dX7_put_2 ?_
  refine A_iload_n C (pc := 3) 2 rfl dX7_put_3 ?_
  obtain ⟨z4, h4, hf⟩ := bd_i hf
  refine A_callV1 C (pc := 4) (A := [.int x1, .int x2]) (rest := [.ref (B + 47)]) k_X7_66 ky_X7_isThing kv_X7_isThing (m_X7_isThing l B D Y o  h4) (by decide) rfl rfl rfl rfl (Nat.le_of_ble_eq_true rfl) ⟨rfl, rfl, Nat.le_of_ble_eq_true rfl, Nat.le_of_ble_eq_true rfl⟩ ⟨Nat.zero_le _, Nat.zero_le _⟩ dX7_put_4 ?_
  refine A_if_eq C (pc := 7) 23 (by decide) dX7_put_7 hf (fun _ hf => ?_) (fun _ hf => ?_)
  · exact w_X7_put_L23 C hr hk hf
  · refine A_aload_n C (pc := 10) 0 rfl dX7_put_10 ?_
    refine A_iload_n C (pc := 11) 1 rfl dX7_put_11 ?_
    refine A_iload_n C (pc := 12) 3 rfl dX7_put_12 ?_
    obtain ⟨z13, h13, hf⟩ := bd_i hf
    refine A_callV1 C (pc := 13) (A := [.int x1, .int x3]) (rest := [.ref (B + 47)]) k_X7_66 ky_X7_isThing kv_X7_isThing (m_X7_isThing l B D Y o  h13) (by decide) rfl rfl rfl rfl (Nat.le_of_ble_eq_true rfl) ⟨rfl, rfl, Nat.le_of_ble_eq_true rfl, Nat.le_of_ble_eq_true rfl⟩ ⟨Nat.zero_le _, Nat.zero_le _⟩ dX7_put_13 ?_
    refine A_if_eq C (pc := 16) 23 (by decide) dX7_put_16 hf (fun _ hf => ?_) (fun _ hf => ?_)
    · exact w_X7_put_L23 C hr hk hf
    · refine A_iconst C (pc := 19) ic_1 dX7_put_19 ?_
      refine A_goto C (pc := 20) 24 (by decide) dX7_put_20 ?_
      exact w_X7_put_L24 C hr hk hf
set_option maxRecDepth 100000 in
theorem w_X7_next_L15 {M : Mem} {x1 : Int32} {x2 : Int32} {x3 : Int32} {r : Int32} (C : Cx p s m args c cX7_next 6 RX7 B D Y) (hr : meth.sig.returnType = (some .boolean)) (hk : meth.locks = false)  : ∀ (n : Nat) (x4 : Int32) (x5 : Int32), f_X7_next_L15 M x1 x2 x3 n (x4, x5) = some r → At p l e rm_X7_next s m args below meth c 6 0 0 (QQ below args s B D Y M o (some (.int r))) B D Y o 15 M [(0, .ref (B + 47)), (1, .int x1), (2, .int x2), (3, .int x3), (4, .int x4), (5, .int x5)] [] := by
  intro n
  induction n with
  | zero => intro x4 x5 hf; exact nomatch (show (none : Option Int32) = some r from hf)
  | succ n hk15 =>
    intro x4 x5 hf
    replace hf : g_X7_next_L15 M x1 x2 x3 (f_X7_next_L15 M x1 x2 x3 n) (x4, x5) = some r := hf
    dsimp only [g_X7_next_L15] at hf
    refine A_iload C (pc := 15) 5 rfl dX7_next_15 ?_
    refine A_aload_n C (pc := 17) 0 rfl dX7_next_17 ?_
    refine A_g7_0 C (pc := 18) kf_X7_9 dX7_next_18 ?_
    refine A_iload_n C (pc := 21) 1 rfl dX7_next_21 ?_
    obtain ⟨c22, hf⟩ := chk_i hf
    refine A_iald C (pc := 22) (show IA 48 5 from ⟨rfl, rfl⟩) c22 dX7_next_22 ?_
    refine A_icmp_ge C (pc := 23) 72 (by decide) dX7_next_23 hf (fun _ hf => ?_) (fun _ hf => ?_)
    · refine A_iload C (pc := 72) 4 rfl dX7_next_72 ?_
      obtain ⟨c74, hf⟩ := chk_i hf
      exact R_iP C (pc := 74) hr hk (isb_nz c74) dX7_next_74 hf
    · refine A_iload C (pc := 26) 4 rfl dX7_next_26 ?_
      refine A_if_eq C (pc := 28) 63 (by decide) dX7_next_28 hf (fun _ hf => ?_) (fun _ hf => ?_)
      · refine A_iconst C (pc := 63) ic_0 dX7_next_63 ?_
        refine A_istore C (pc := 64) [(0, .ref (B + 47)), (1, .int x1), (2, .int x2), (3, .int x3), (4, .int 0), (5, .int x5)] (by decide) [1, 2, 3, 4, 0, 5] rfl dX7_next_64 ?_
        refine A_iinc C (pc := 66) (k0 := 5) [(0, .ref (B + 47)), (1, .int x1), (2, .int x2), (3, .int x3), (4, .int 0), (5, .int (x5 + 1))] rfl ic_1 (by decide) [1, 2, 3, 4, 5, 0] rfl dX7_next_66 ?_
        refine A_goto C (pc := 69) 15 (by decide) dX7_next_69 ?_
        exact hk15 _ _ hf
      · refine A_aload_n C (pc := 31) 0 rfl dX7_next_31 ?_
        refine A_g7_2 C (pc := 32) kf_X7_20 dX7_next_32 ?_
        refine A_iload_n C (pc := 35) 1 rfl dX7_next_35 ?_
        obtain ⟨c36, hf⟩ := chk_i hf
        refine A_aB C (pc := 36) c36 dX7_next_36 ?_
        refine A_iload_n C (pc := 37) 2 rfl dX7_next_37 ?_
        obtain ⟨c38, hf⟩ := chk_i hf
        refine A_aR C (pc := 38) (kBel (inb_lt c36)) c38 dX7_next_38 ?_
        refine A_iload C (pc := 39) 5 rfl dX7_next_39 ?_
        obtain ⟨c41, hf⟩ := chk_i hf
        refine A_zald C (pc := 41) (kRow (kBel (inb_lt c36)) (inb_lt c38)) c41 dX7_next_41 ?_
        refine A_if_eq C (pc := 42) 59 (by decide) dX7_next_42 hf (fun _ hf => ?_) (fun _ hf => ?_)
        · refine A_iconst C (pc := 59) ic_1 dX7_next_59 ?_
          refine A_goto C (pc := 60) 64 (by decide) dX7_next_60 ?_
          refine A_istore C (pc := 64) [(0, .ref (B + 47)), (1, .int x1), (2, .int x2), (3, .int x3), (4, .int 1), (5, .int x5)] (by decide) [1, 2, 3, 4, 0, 5] rfl dX7_next_64 ?_
          refine A_iinc C (pc := 66) (k0 := 5) [(0, .ref (B + 47)), (1, .int x1), (2, .int x2), (3, .int x3), (4, .int 1), (5, .int (x5 + 1))] rfl ic_1 (by decide) [1, 2, 3, 4, 5, 0] rfl dX7_next_66 ?_
          refine A_goto C (pc := 69) 15 (by decide) dX7_next_69 ?_
          exact hk15 _ _ hf
        · refine A_aload_n C (pc := 45) 0 rfl dX7_next_45 ?_
          refine A_g7_2 C (pc := 46) kf_X7_20 dX7_next_46 ?_
          refine A_iload_n C (pc := 49) 1 rfl dX7_next_49 ?_
          obtain ⟨c50, hf⟩ := chk_i hf
          refine A_aB C (pc := 50) c50 dX7_next_50 ?_
          refine A_iload C (pc := 51) 5 rfl dX7_next_51 ?_
          obtain ⟨c53, hf⟩ := chk_i hf
          refine A_aR C (pc := 53) (kBel (inb_lt c50)) c53 dX7_next_53 ?_
          refine A_iload_n C (pc := 54) 3 rfl dX7_next_54 ?_
          obtain ⟨c55, hf⟩ := chk_i hf
          refine A_zald C (pc := 55) (kRow (kBel (inb_lt c50)) (inb_lt c53)) c55 dX7_next_55 ?_
          refine A_if_ne C (pc := 56) 63 (by decide) dX7_next_56 hf (fun _ hf => ?_) (fun _ hf => ?_)
          · refine A_iconst C (pc := 63) ic_0 dX7_next_63 ?_
            refine A_istore C (pc := 64) [(0, .ref (B + 47)), (1, .int x1), (2, .int x2), (3, .int x3), (4, .int 0), (5, .int x5)] (by decide) [1, 2, 3, 4, 0, 5] rfl dX7_next_64 ?_
            refine A_iinc C (pc := 66) (k0 := 5) [(0, .ref (B + 47)), (1, .int x1), (2, .int x2), (3, .int x3), (4, .int 0), (5, .int (x5 + 1))] rfl ic_1 (by decide) [1, 2, 3, 4, 5, 0] rfl dX7_next_66 ?_
            refine A_goto C (pc := 69) 15 (by decide) dX7_next_69 ?_
            exact hk15 _ _ hf
          · refine A_iconst C (pc := 59) ic_1 dX7_next_59 ?_
            refine A_goto C (pc := 60) 64 (by decide) dX7_next_60 ?_
            refine A_istore C (pc := 64) [(0, .ref (B + 47)), (1, .int x1), (2, .int x2), (3, .int x3), (4, .int 1), (5, .int x5)] (by decide) [1, 2, 3, 4, 0, 5] rfl dX7_next_64 ?_
            refine A_iinc C (pc := 66) (k0 := 5) [(0, .ref (B + 47)), (1, .int x1), (2, .int x2), (3, .int x3), (4, .int 1), (5, .int (x5 + 1))] rfl ic_1 (by decide) [1, 2, 3, 4, 5, 0] rfl dX7_next_66 ?_
            refine A_goto C (pc := 69) 15 (by decide) dX7_next_69 ?_
            exact hk15 _ _ hf
set_option maxRecDepth 100000 in
theorem m_X7_next (l : Launch) (B : Nat) (D : va_G) (Y : Nat → ClassId) (o : Ou) {M : Mem} {x1 : Int32} {x2 : Int32} {x3 : Int32} {r : Int32}  (hf : f_X7_next M x1 x2 x3 = some r) : MW l yX7_next cX7_next 6 (some .boolean) rm_X7_next B D Y o [.ref (B + 47), .int x1, .int x2, .int x3] M M (some (.int r)) := by
  refine ofAt (L0 := [(0, .ref (B + 47)), (1, .int x1), (2, .int x2), (3, .int x3)]) (by decide +kernel) (Nat.le_of_ble_eq_true rfl) rfl (fun p e s m args below meth c C hr hk => ?_)
  dsimp only [f_X7_next] at hf
  refine A_aload_n C (pc := 0) 0 rfl dX7_next_0 ?_
  refine A_g7_2 C (pc := 1) kf_X7_20 dX7_next_1 ?_
  refine A_iload_n C (pc := 4) 1 rfl dX7_next_4 ?_
  obtain ⟨c5, hf⟩ := chk_i hf
  refine A_aB C (pc := 5) c5 dX7_next_5 ?_
  refine A_iload_n C (pc := 6) 2 rfl dX7_next_6 ?_
  obtain ⟨c7, hf⟩ := chk_i hf
  refine A_aR C (pc := 7) (kBel (inb_lt c5)) c7 dX7_next_7 ?_
  refine A_iload_n C (pc := 8) 3 rfl dX7_next_8 ?_
  obtain ⟨c9, hf⟩ := chk_i hf
  refine A_zald C (pc := 9) (kRow (kBel (inb_lt c5)) (inb_lt c7)) c9 dX7_next_9 ?_
  obtain ⟨v10, e10, hf⟩ := bd_i hf
  refine A_nmI e10 ?_
  refine A_istore C (pc := 10) [(0, .ref (B + 47)), (1, .int x1), (2, .int x2), (3, .int x3), (4, .int v10)] (by decide) [1, 2, 3, 4, 0] rfl dX7_next_10 ?_
  refine A_iconst C (pc := 12) ic_0 dX7_next_12 ?_
  refine A_istore C (pc := 13) [(0, .ref (B + 47)), (1, .int x1), (2, .int x2), (3, .int x3), (4, .int v10), (5, .int 0)] (by decide) [1, 2, 3, 4, 5, 0] rfl dX7_next_13 ?_
  exact w_X7_next_L15 C hr hk FU _ _  hf
set_option maxRecDepth 100000 in
theorem w_X7_loose_L24 {M : Mem} {x1 : Int32} {x2 : Int32} {x3 : Int32} {y0 : Int32} {r : Int32 × Mem} (C : Cx p s m args c cX7_loose 4 RX7 B D Y) (hr : meth.sig.returnType = (some .int)) (hk : meth.locks = false)  (hf : f_X7_loose_L24 M x1 x2 x3 y0 = some r) : At p l e rm_X7_loose s m args below meth c 4 0 0 (QQ below args s B D Y r.2 o (some (.int r.1))) B D Y o 24 M [(0, .ref (B + 47)), (1, .int x1), (2, .int x2), (3, .int x3)] [.int y0, .ref (B + 47)] := by
  dsimp only [f_X7_loose_L24] at hf
  refine A_iconst C (pc := 24) ic_1 dX7_loose_24 ?_
  obtain ⟨z25, h25, hf⟩ := bd_i hf
  refine A_callV1 C (pc := 25) (A := [.int y0, .int 1]) (rest := []) k_X7_51 ky_X7_lets kv_X7_lets (m_X7_lets l B D Y o  h25) (by decide) rfl rfl rfl rfl (Nat.le_of_ble_eq_true rfl) ⟨rfl, rfl, Nat.le_of_ble_eq_true rfl, Nat.le_of_ble_eq_true rfl⟩ ⟨Nat.zero_le _, Nat.zero_le _⟩ dX7_loose_25 ?_
  refine A_if_ne C (pc := 28) 33 (by decide) dX7_loose_28 hf (fun _ hf => ?_) (fun _ hf => ?_)
  · refine A_aload_n C (pc := 33) 0 rfl dX7_loose_33 ?_
    refine A_iload_n C (pc := 34) 1 rfl dX7_loose_34 ?_
    refine A_iload_n C (pc := 35) 2 rfl dX7_loose_35 ?_
    refine A_iload_n C (pc := 36) 3 rfl dX7_loose_36 ?_
    obtain ⟨z37, h37, hf⟩ := bd_i hf
    refine A_callV1 C (pc := 37) (A := [.int x1, .int x2, .int x3]) (rest := []) k_X7_78 ky_X7_next kv_X7_next (m_X7_next l B D Y o  h37) (by decide) rfl rfl rfl rfl (Nat.le_of_ble_eq_true rfl) ⟨rfl, rfl, Nat.le_of_ble_eq_true rfl, Nat.le_of_ble_eq_true rfl⟩ ⟨Nat.zero_le _, Nat.zero_le _⟩ dX7_loose_37 ?_
    refine A_if_ne C (pc := 40) 46 (by decide) dX7_loose_40 hf (fun _ hf => ?_) (fun _ hf => ?_)
    · refine A_aload_n C (pc := 46) 0 rfl dX7_loose_46 ?_
      refine A_g7_2 C (pc := 47) kf_X7_20 dX7_loose_47 ?_
      refine A_iload_n C (pc := 50) 1 rfl dX7_loose_50 ?_
      obtain ⟨c51, hf⟩ := chk_i hf
      refine A_aB C (pc := 51) c51 dX7_loose_51 ?_
      refine A_iload_n C (pc := 52) 2 rfl dX7_loose_52 ?_
      obtain ⟨c53, hf⟩ := chk_i hf
      refine A_aR C (pc := 53) (kBel (inb_lt c51)) c53 dX7_loose_53 ?_
      refine A_iload_n C (pc := 54) 3 rfl dX7_loose_54 ?_
      refine A_iconst C (pc := 55) ic_0 dX7_loose_55 ?_
      obtain ⟨c56, hf⟩ := chk_i hf
      obtain ⟨b56, hf⟩ := chk_i hf
      obtain ⟨M56, e56, hf⟩ := bd_i hf
      refine A_zast C (pc := 56) (kRow (kBel (inb_lt c51)) (inb_lt c53)) c56 b56 dX7_loose_56 ?_
      refine A_nmM e56 ?_
      refine A_aload_n C (pc := 57) 0 rfl dX7_loose_57 ?_
      refine A_iload_n C (pc := 58) 1 rfl dX7_loose_58 ?_
      obtain ⟨z59, h59, hf⟩ := bd_i hf
      refine A_callV1 C (pc := 59) (A := [.int x1]) (rest := []) k_X7_59 ky_X7_pairsOf kv_X7_pairsOf (m_X7_pairsOf l B D Y o  h59) (by decide) rfl rfl rfl rfl (Nat.le_of_ble_eq_true rfl) ⟨rfl, rfl, Nat.le_of_ble_eq_true rfl, Nat.le_of_ble_eq_true rfl⟩ ⟨Nat.zero_le _, Nat.zero_le _⟩ dX7_loose_59 ?_
      exact R_iM C (pc := 62) hr hk rfl dX7_loose_62 hf
    · refine A_bipush C (pc := 43) bc_m9 dX7_loose_43 ?_
      exact R_iM C (pc := 45) hr hk rfl dX7_loose_45 hf
  · refine A_iconst C (pc := 31) ic_0 dX7_loose_31 ?_
    exact R_iM C (pc := 32) hr hk rfl dX7_loose_32 hf
set_option maxRecDepth 100000 in
theorem w_X7_loose_L23 {M : Mem} {x1 : Int32} {x2 : Int32} {x3 : Int32} {r : Int32 × Mem} (C : Cx p s m args c cX7_loose 4 RX7 B D Y) (hr : meth.sig.returnType = (some .int)) (hk : meth.locks = false)  (hf : f_X7_loose_L23 M x1 x2 x3 = some r) : At p l e rm_X7_loose s m args below meth c 4 0 0 (QQ below args s B D Y r.2 o (some (.int r.1))) B D Y o 23 M [(0, .ref (B + 47)), (1, .int x1), (2, .int x2), (3, .int x3)] [.ref (B + 47)] := by
  dsimp only [f_X7_loose_L23] at hf
  refine A_iconst C (pc := 23) ic_0 dX7_loose_23 ?_
  exact w_X7_loose_L24 C hr hk hf
set_option maxRecDepth 100000 in
theorem m_X7_loose (l : Launch) (B : Nat) (D : va_G) (Y : Nat → ClassId) (o : Ou) {M : Mem} {x1 : Int32} {x2 : Int32} {x3 : Int32} {r : Int32 × Mem}  (hf : f_X7_loose M x1 x2 x3 = some r) : MW l yX7_loose cX7_loose 4 (some .int) rm_X7_loose B D Y o [.ref (B + 47), .int x1, .int x2, .int x3] M r.2 (some (.int r.1)) := by
  refine ofAt (L0 := [(0, .ref (B + 47)), (1, .int x1), (2, .int x2), (3, .int x3)]) (by decide +kernel) (Nat.le_of_ble_eq_true rfl) rfl (fun p e s m args below meth c C hr hk => ?_)
  dsimp only [f_X7_loose] at hf
  refine A_aload_n C (pc := 0) 0 rfl dX7_loose_0 ?_
  refine A_aload_n C (pc := 1) 0 rfl dX7_loose_1 ?_
  refine A_iload_n C (pc := 2) 1 rfl dX7_loose_2 ?_
  refine A_iload_n C (pc := 3) 2 rfl dX7_loose_3 ?_
  obtain ⟨z4, h4, hf⟩ := bd_i hf
  refine A_callV1 C (pc := 4) (A := [.int x1, .int x2]) (rest := [.ref (B + 47)]) k_X7_66 ky_X7_isThing kv_X7_isThing (m_X7_isThing l B D Y o  h4) (by decide) rfl rfl rfl rfl (Nat.le_of_ble_eq_true rfl) ⟨rfl, rfl, Nat.le_of_ble_eq_true rfl, Nat.le_of_ble_eq_true rfl⟩ ⟨Nat.zero_le _, Nat.zero_le _⟩ dX7_loose_4 ?_
  refine A_if_eq C (pc := 7) 23 (by decide) dX7_loose_7 hf (fun _ hf => ?_) (fun _ hf => ?_)
  · exact w_X7_loose_L23 C hr hk hf
  · refine A_aload_n C (pc := 10) 0 rfl dX7_loose_10 ?_
    refine A_iload_n C (pc := 11) 1 rfl dX7_loose_11 ?_
    refine A_iload_n C (pc := 12) 3 rfl dX7_loose_12 ?_
    obtain ⟨z13, h13, hf⟩ := bd_i hf
    refine A_callV1 C (pc := 13) (A := [.int x1, .int x3]) (rest := [.ref (B + 47)]) k_X7_66 ky_X7_isThing kv_X7_isThing (m_X7_isThing l B D Y o  h13) (by decide) rfl rfl rfl rfl (Nat.le_of_ble_eq_true rfl) ⟨rfl, rfl, Nat.le_of_ble_eq_true rfl, Nat.le_of_ble_eq_true rfl⟩ ⟨Nat.zero_le _, Nat.zero_le _⟩ dX7_loose_13 ?_
    refine A_if_eq C (pc := 16) 23 (by decide) dX7_loose_16 hf (fun _ hf => ?_) (fun _ hf => ?_)
    · exact w_X7_loose_L23 C hr hk hf
    · refine A_iconst C (pc := 19) ic_1 dX7_loose_19 ?_
      refine A_goto C (pc := 20) 24 (by decide) dX7_loose_20 ?_
      exact w_X7_loose_L24 C hr hk hf
set_option maxRecDepth 100000 in
theorem w_X7_lowerOf_L5 {M : Mem} {x1 : Int32} {x2 : Int32} {r : Int32} (C : Cx p s m args c cX7_lowerOf 5 RX7 B D Y) (hr : meth.sig.returnType = (some .int)) (hk : meth.locks = false)  : ∀ (n : Nat) (x3 : Int32) (x4 : Int32), f_X7_lowerOf_L5 M x1 x2 n (x3, x4) = some r → At p l e rm_X7_lowerOf s m args below meth c 5 0 0 (QQ below args s B D Y M o (some (.int r))) B D Y o 5 M [(0, .ref (B + 47)), (1, .int x1), (2, .int x2), (3, .int x3), (4, .int x4)] [] := by
  intro n
  induction n with
  | zero => intro x3 x4 hf; exact nomatch (show (none : Option Int32) = some r from hf)
  | succ n hk5 =>
    intro x3 x4 hf
    replace hf : g_X7_lowerOf_L5 M x1 x2 (f_X7_lowerOf_L5 M x1 x2 n) (x3, x4) = some r := hf
    dsimp only [g_X7_lowerOf_L5] at hf
    refine A_iload C (pc := 5) 4 rfl dX7_lowerOf_5 ?_
    refine A_aload_n C (pc := 7) 0 rfl dX7_lowerOf_7 ?_
    refine A_g7_0 C (pc := 8) kf_X7_9 dX7_lowerOf_8 ?_
    refine A_iload_n C (pc := 11) 1 rfl dX7_lowerOf_11 ?_
    obtain ⟨c12, hf⟩ := chk_i hf
    refine A_iald C (pc := 12) (show IA 48 5 from ⟨rfl, rfl⟩) c12 dX7_lowerOf_12 ?_
    refine A_icmp_ge C (pc := 13) 47 (by decide) dX7_lowerOf_13 hf (fun _ hf => ?_) (fun _ hf => ?_)
    · refine A_iload_n C (pc := 47) 3 rfl dX7_lowerOf_47 ?_
      exact R_iP C (pc := 48) hr hk rfl dX7_lowerOf_48 hf
    · refine A_iload_n C (pc := 16) 3 rfl dX7_lowerOf_16 ?_
      refine A_aload_n C (pc := 17) 0 rfl dX7_lowerOf_17 ?_
      refine A_g7_2 C (pc := 18) kf_X7_20 dX7_lowerOf_18 ?_
      refine A_iload_n C (pc := 21) 1 rfl dX7_lowerOf_21 ?_
      obtain ⟨c22, hf⟩ := chk_i hf
      refine A_aB C (pc := 22) c22 dX7_lowerOf_22 ?_
      refine A_iload C (pc := 23) 4 rfl dX7_lowerOf_23 ?_
      obtain ⟨c25, hf⟩ := chk_i hf
      refine A_aR C (pc := 25) (kBel (inb_lt c22)) c25 dX7_lowerOf_25 ?_
      refine A_iload_n C (pc := 26) 2 rfl dX7_lowerOf_26 ?_
      obtain ⟨c27, hf⟩ := chk_i hf
      refine A_zald C (pc := 27) (kRow (kBel (inb_lt c22)) (inb_lt c25)) c27 dX7_lowerOf_27 ?_
      refine A_if_eq C (pc := 28) 38 (by decide) dX7_lowerOf_28 hf (fun _ hf => ?_) (fun _ hf => ?_)
      · refine A_iconst C (pc := 38) ic_0 dX7_lowerOf_38 ?_
        refine A_iadd C (pc := 39) dX7_lowerOf_39 ?_
        obtain ⟨v40, e40, hf⟩ := bd_i hf
        refine A_nmI e40 ?_
        refine A_istore_n C (pc := 40) [(0, .ref (B + 47)), (1, .int x1), (2, .int x2), (3, .int v40), (4, .int x4)] rfl (by decide) [1, 2, 3, 0, 4] rfl dX7_lowerOf_40 ?_
        refine A_iinc C (pc := 41) (k0 := 4) [(0, .ref (B + 47)), (1, .int x1), (2, .int x2), (3, .int v40), (4, .int (x4 + 1))] rfl ic_1 (by decide) [1, 2, 3, 4, 0] rfl dX7_lowerOf_41 ?_
        refine A_goto C (pc := 44) 5 (by decide) dX7_lowerOf_44 ?_
        exact hk5 _ _ hf
      · refine A_iconst C (pc := 31) ic_1 dX7_lowerOf_31 ?_
        refine A_iload C (pc := 32) 4 rfl dX7_lowerOf_32 ?_
        refine A_ishl C (pc := 34) dX7_lowerOf_34 ?_
        refine A_goto C (pc := 35) 39 (by decide) dX7_lowerOf_35 ?_
        refine A_iadd C (pc := 39) dX7_lowerOf_39 ?_
        obtain ⟨v40, e40, hf⟩ := bd_i hf
        refine A_nmI e40 ?_
        refine A_istore_n C (pc := 40) [(0, .ref (B + 47)), (1, .int x1), (2, .int x2), (3, .int v40), (4, .int x4)] rfl (by decide) [1, 2, 3, 0, 4] rfl dX7_lowerOf_40 ?_
        refine A_iinc C (pc := 41) (k0 := 4) [(0, .ref (B + 47)), (1, .int x1), (2, .int x2), (3, .int v40), (4, .int (x4 + 1))] rfl ic_1 (by decide) [1, 2, 3, 4, 0] rfl dX7_lowerOf_41 ?_
        refine A_goto C (pc := 44) 5 (by decide) dX7_lowerOf_44 ?_
        exact hk5 _ _ hf
set_option maxRecDepth 100000 in
theorem m_X7_lowerOf (l : Launch) (B : Nat) (D : va_G) (Y : Nat → ClassId) (o : Ou) {M : Mem} {x1 : Int32} {x2 : Int32} {r : Int32}  (hf : f_X7_lowerOf M x1 x2 = some r) : MW l yX7_lowerOf cX7_lowerOf 5 (some .int) rm_X7_lowerOf B D Y o [.ref (B + 47), .int x1, .int x2] M M (some (.int r)) := by
  refine ofAt (L0 := [(0, .ref (B + 47)), (1, .int x1), (2, .int x2)]) (by decide +kernel) (Nat.le_of_ble_eq_true rfl) rfl (fun p e s m args below meth c C hr hk => ?_)
  dsimp only [f_X7_lowerOf] at hf
  refine A_iconst C (pc := 0) ic_0 dX7_lowerOf_0 ?_
  refine A_istore_n C (pc := 1) [(0, .ref (B + 47)), (1, .int x1), (2, .int x2), (3, .int 0)] rfl (by decide) [1, 2, 3, 0] rfl dX7_lowerOf_1 ?_
  refine A_iconst C (pc := 2) ic_0 dX7_lowerOf_2 ?_
  refine A_istore C (pc := 3) [(0, .ref (B + 47)), (1, .int x1), (2, .int x2), (3, .int 0), (4, .int 0)] (by decide) [1, 2, 3, 4, 0] rfl dX7_lowerOf_3 ?_
  exact w_X7_lowerOf_L5 C hr hk FU _ _  hf
set_option maxRecDepth 100000 in
theorem w_X7_follow_L180 {M : Mem} {x1 : Int32} {x2 : Int32} {x3 : Int32} {x4 : Int32} {x6 : Int32} {x7 : Int32} {x8 : Int32} {x9 : Int32} {y0 : Int32} {r : Int32 × Mem} (C : Cx p s m args c cX7_follow 11 RX7 B D Y) (hr : meth.sig.returnType = (some .int)) (hk : meth.locks = false)  {k60 : (Int32 × Mem) → Option (Int32 × Mem)} (hk60 : ∀ (x6 : Int32) (M : Mem), k60 (x6, M) = some r → At p l e rm_X7_follow s m args below meth c 11 0 0 (QQ below args s B D Y r.2 o (some (.int r.1))) B D Y o 60 M [(0, .ref (B + 47)), (1, .int x1), (2, .int x2), (3, .int x3), (4, .int x4), (6, .int x6)] []) {k71 : (Int32 × Int32) → Option (Int32 × Mem)} (hk71 : ∀ (x7 : Int32) (x8 : Int32), k71 (x7, x8) = some r → At p l e rm_X7_follow s m args below meth c 11 0 0 (QQ below args s B D Y r.2 o (some (.int r.1))) B D Y o 71 M [(0, .ref (B + 47)), (1, .int x1), (2, .int x2), (3, .int x3), (4, .int x4), (6, .int x6), (7, .int x7), (8, .int x8)] []) (hf : f_X7_follow_L180 M x1 x2 x3 x4 x6 x7 x8 x9 y0 k60 k71 = some r) : At p l e rm_X7_follow s m args below meth c 11 0 0 (QQ below args s B D Y r.2 o (some (.int r.1))) B D Y o 180 M [(0, .ref (B + 47)), (1, .int x1), (2, .int x2), (3, .int x3), (4, .int x4), (6, .int x6), (7, .int x7), (8, .int x8), (9, .int x9)] [.int y0] := by
  dsimp only [f_X7_follow_L180] at hf
  refine A_istore C (pc := 180) [(0, .ref (B + 47)), (1, .int x1), (2, .int x2), (3, .int x3), (4, .int x4), (6, .int x6), (7, .int x7), (8, .int x8), (9, .int x9), (10, .int y0)] (by decide) [1, 2, 3, 4, 5, 6, 7, 8, 9, 0] rfl dX7_follow_180 ?_
  refine A_iload C (pc := 182) 6 rfl dX7_follow_182 ?_
  refine A_iload C (pc := 184) 8 rfl dX7_follow_184 ?_
  refine A_if_eq C (pc := 186) 209 (by decide) dX7_follow_186 hf (fun _ hf => ?_) (fun _ hf => ?_)
  · refine A_iconst C (pc := 209) ic_0 dX7_follow_209 ?_
    refine A_iadd C (pc := 210) dX7_follow_210 ?_
    obtain ⟨v211, e211, hf⟩ := bd_i hf
    refine A_nmI e211 ?_
    refine A_istore C (pc := 211) [(0, .ref (B + 47)), (1, .int x1), (2, .int x2), (3, .int x3), (4, .int x4), (6, .int x6), (7, .int v211), (8, .int x8)] (by decide) [1, 2, 3, 4, 5, 6, 0, 7] rfl dX7_follow_211 ?_
    refine A_iinc C (pc := 213) (k0 := 7) [(0, .ref (B + 47)), (1, .int x1), (2, .int x2), (3, .int x3), (4, .int x4), (6, .int x6), (7, .int v211), (8, .int (x8 + 1))] rfl ic_1 (by decide) [1, 2, 3, 4, 5, 6, 7, 0] rfl dX7_follow_213 ?_
    refine A_goto C (pc := 216) 71 (by decide) dX7_follow_216 ?_
    exact hk71 _ _ hf
  · refine A_iload C (pc := 189) 9 rfl dX7_follow_189 ?_
    refine A_if_eq C (pc := 191) 209 (by decide) dX7_follow_191 hf (fun _ hf => ?_) (fun _ hf => ?_)
    · refine A_iconst C (pc := 209) ic_0 dX7_follow_209 ?_
      refine A_iadd C (pc := 210) dX7_follow_210 ?_
      obtain ⟨v211, e211, hf⟩ := bd_i hf
      refine A_nmI e211 ?_
      refine A_istore C (pc := 211) [(0, .ref (B + 47)), (1, .int x1), (2, .int x2), (3, .int x3), (4, .int x4), (6, .int x6), (7, .int v211), (8, .int x8)] (by decide) [1, 2, 3, 4, 5, 6, 0, 7] rfl dX7_follow_211 ?_
      refine A_iinc C (pc := 213) (k0 := 7) [(0, .ref (B + 47)), (1, .int x1), (2, .int x2), (3, .int x3), (4, .int x4), (6, .int x6), (7, .int v211), (8, .int (x8 + 1))] rfl ic_1 (by decide) [1, 2, 3, 4, 5, 6, 7, 0] rfl dX7_follow_213 ?_
      refine A_goto C (pc := 216) 71 (by decide) dX7_follow_216 ?_
      exact hk71 _ _ hf
    · refine A_aload_n C (pc := 194) 0 rfl dX7_follow_194 ?_
      refine A_g7_4 C (pc := 195) kf_X7_23 dX7_follow_195 ?_
      refine A_iload C (pc := 198) 5 rfl dX7_follow_198 ?_
      refine A_iconst C (pc := 200) ic_1 dX7_follow_200 ?_
      refine A_iload C (pc := 201) 7 rfl dX7_follow_201 ?_
      refine A_ishl C (pc := 203) dX7_follow_203 ?_
      refine A_iadd C (pc := 204) dX7_follow_204 ?_
      obtain ⟨c205, hf⟩ := chk_i hf
      refine A_iald C (pc := 205) (show IA 106 512 from ⟨rfl, rfl⟩) c205 dX7_follow_205 ?_
      refine A_goto C (pc := 206) 210 (by decide) dX7_follow_206 ?_
      refine A_iadd C (pc := 210) dX7_follow_210 ?_
      obtain ⟨v211, e211, hf⟩ := bd_i hf
      refine A_nmI e211 ?_
      refine A_istore C (pc := 211) [(0, .ref (B + 47)), (1, .int x1), (2, .int x2), (3, .int x3), (4, .int x4), (6, .int x6), (7, .int v211), (8, .int x8)] (by decide) [1, 2, 3, 4, 5, 6, 0, 7] rfl dX7_follow_211 ?_
      refine A_iinc C (pc := 213) (k0 := 7) [(0, .ref (B + 47)), (1, .int x1), (2, .int x2), (3, .int x3), (4, .int x4), (6, .int x6), (7, .int v211), (8, .int (x8 + 1))] rfl ic_1 (by decide) [1, 2, 3, 4, 5, 6, 7, 0] rfl dX7_follow_213 ?_
      refine A_goto C (pc := 216) 71 (by decide) dX7_follow_216 ?_
      exact hk71 _ _ hf
set_option maxRecDepth 100000 in
theorem w_X7_follow_L175 {M : Mem} {x1 : Int32} {x2 : Int32} {x3 : Int32} {x4 : Int32} {x6 : Int32} {x7 : Int32} {x8 : Int32} {x9 : Int32} {r : Int32 × Mem} (C : Cx p s m args c cX7_follow 11 RX7 B D Y) (hr : meth.sig.returnType = (some .int)) (hk : meth.locks = false)  {k60 : (Int32 × Mem) → Option (Int32 × Mem)} (hk60 : ∀ (x6 : Int32) (M : Mem), k60 (x6, M) = some r → At p l e rm_X7_follow s m args below meth c 11 0 0 (QQ below args s B D Y r.2 o (some (.int r.1))) B D Y o 60 M [(0, .ref (B + 47)), (1, .int x1), (2, .int x2), (3, .int x3), (4, .int x4), (6, .int x6)] []) {k71 : (Int32 × Int32) → Option (Int32 × Mem)} (hk71 : ∀ (x7 : Int32) (x8 : Int32), k71 (x7, x8) = some r → At p l e rm_X7_follow s m args below meth c 11 0 0 (QQ below args s B D Y r.2 o (some (.int r.1))) B D Y o 71 M [(0, .ref (B + 47)), (1, .int x1), (2, .int x2), (3, .int x3), (4, .int x4), (6, .int x6), (7, .int x7), (8, .int x8)] []) (hf : f_X7_follow_L175 M x1 x2 x3 x4 x6 x7 x8 x9 k60 k71 = some r) : At p l e rm_X7_follow s m args below meth c 11 0 0 (QQ below args s B D Y r.2 o (some (.int r.1))) B D Y o 175 M [(0, .ref (B + 47)), (1, .int x1), (2, .int x2), (3, .int x3), (4, .int x4), (6, .int x6), (7, .int x7), (8, .int x8), (9, .int x9)] [] := by
  dsimp only [f_X7_follow_L175] at hf
  refine A_iconst C (pc := 175) ic_1 dX7_follow_175 ?_
  refine A_goto C (pc := 176) 180 (by decide) dX7_follow_176 ?_
  exact w_X7_follow_L180 C hr hk hk60 hk71 hf
set_option maxRecDepth 100000 in
theorem w_X7_follow_L179 {M : Mem} {x1 : Int32} {x2 : Int32} {x3 : Int32} {x4 : Int32} {x6 : Int32} {x7 : Int32} {x8 : Int32} {x9 : Int32} {r : Int32 × Mem} (C : Cx p s m args c cX7_follow 11 RX7 B D Y) (hr : meth.sig.returnType = (some .int)) (hk : meth.locks = false)  {k60 : (Int32 × Mem) → Option (Int32 × Mem)} (hk60 : ∀ (x6 : Int32) (M : Mem), k60 (x6, M) = some r → At p l e rm_X7_follow s m args below meth c 11 0 0 (QQ below args s B D Y r.2 o (some (.int r.1))) B D Y o 60 M [(0, .ref (B + 47)), (1, .int x1), (2, .int x2), (3, .int x3), (4, .int x4), (6, .int x6)] []) {k71 : (Int32 × Int32) → Option (Int32 × Mem)} (hk71 : ∀ (x7 : Int32) (x8 : Int32), k71 (x7, x8) = some r → At p l e rm_X7_follow s m args below meth c 11 0 0 (QQ below args s B D Y r.2 o (some (.int r.1))) B D Y o 71 M [(0, .ref (B + 47)), (1, .int x1), (2, .int x2), (3, .int x3), (4, .int x4), (6, .int x6), (7, .int x7), (8, .int x8)] []) (hf : f_X7_follow_L179 M x1 x2 x3 x4 x6 x7 x8 x9 k60 k71 = some r) : At p l e rm_X7_follow s m args below meth c 11 0 0 (QQ below args s B D Y r.2 o (some (.int r.1))) B D Y o 179 M [(0, .ref (B + 47)), (1, .int x1), (2, .int x2), (3, .int x3), (4, .int x4), (6, .int x6), (7, .int x7), (8, .int x8), (9, .int x9)] [] := by
  dsimp only [f_X7_follow_L179] at hf
  refine A_iconst C (pc := 179) ic_0 dX7_follow_179 ?_
  exact w_X7_follow_L180 C hr hk hk60 hk71 hf
set_option maxRecDepth 100000 in
theorem w_X7_follow_L154 {M : Mem} {x1 : Int32} {x2 : Int32} {x3 : Int32} {x4 : Int32} {x6 : Int32} {x7 : Int32} {x8 : Int32} {x9 : Int32} {y0 : Int32} {y1 : Int32} {r : Int32 × Mem} (C : Cx p s m args c cX7_follow 11 RX7 B D Y) (hr : meth.sig.returnType = (some .int)) (hk : meth.locks = false)  {k60 : (Int32 × Mem) → Option (Int32 × Mem)} (hk60 : ∀ (x6 : Int32) (M : Mem), k60 (x6, M) = some r → At p l e rm_X7_follow s m args below meth c 11 0 0 (QQ below args s B D Y r.2 o (some (.int r.1))) B D Y o 60 M [(0, .ref (B + 47)), (1, .int x1), (2, .int x2), (3, .int x3), (4, .int x4), (6, .int x6)] []) {k71 : (Int32 × Int32) → Option (Int32 × Mem)} (hk71 : ∀ (x7 : Int32) (x8 : Int32), k71 (x7, x8) = some r → At p l e rm_X7_follow s m args below meth c 11 0 0 (QQ below args s B D Y r.2 o (some (.int r.1))) B D Y o 71 M [(0, .ref (B + 47)), (1, .int x1), (2, .int x2), (3, .int x3), (4, .int x4), (6, .int x6), (7, .int x7), (8, .int x8)] []) (hf : f_X7_follow_L154 M x1 x2 x3 x4 x6 x7 x8 x9 y0 y1 k60 k71 = some r) : At p l e rm_X7_follow s m args below meth c 11 0 0 (QQ below args s B D Y r.2 o (some (.int r.1))) B D Y o 154 M [(0, .ref (B + 47)), (1, .int x1), (2, .int x2), (3, .int x3), (4, .int x4), (6, .int x6), (7, .int x7), (8, .int x8), (9, .int x9)] [.int y0, .int y1] := by
  dsimp only [f_X7_follow_L154] at hf
  refine A_icmp_ne C (pc := 154) 179 (by decide) dX7_follow_154 hf (fun _ hf => ?_) (fun _ hf => ?_)
  · exact w_X7_follow_L179 C hr hk hk60 hk71 hf
  · refine A_goto C (pc := 157) 175 (by decide) dX7_follow_157 ?_
    exact w_X7_follow_L175 C hr hk hk60 hk71 hf
set_option maxRecDepth 100000 in
theorem w_X7_follow_L140 {M : Mem} {x1 : Int32} {x2 : Int32} {x3 : Int32} {x4 : Int32} {x6 : Int32} {x7 : Int32} {x8 : Int32} {x9 : Int32} {y0 : Int32} {r : Int32 × Mem} (C : Cx p s m args c cX7_follow 11 RX7 B D Y) (hr : meth.sig.returnType = (some .int)) (hk : meth.locks = false)  {k60 : (Int32 × Mem) → Option (Int32 × Mem)} (hk60 : ∀ (x6 : Int32) (M : Mem), k60 (x6, M) = some r → At p l e rm_X7_follow s m args below meth c 11 0 0 (QQ below args s B D Y r.2 o (some (.int r.1))) B D Y o 60 M [(0, .ref (B + 47)), (1, .int x1), (2, .int x2), (3, .int x3), (4, .int x4), (6, .int x6)] []) {k71 : (Int32 × Int32) → Option (Int32 × Mem)} (hk71 : ∀ (x7 : Int32) (x8 : Int32), k71 (x7, x8) = some r → At p l e rm_X7_follow s m args below meth c 11 0 0 (QQ below args s B D Y r.2 o (some (.int r.1))) B D Y o 71 M [(0, .ref (B + 47)), (1, .int x1), (2, .int x2), (3, .int x3), (4, .int x4), (6, .int x6), (7, .int x7), (8, .int x8)] []) (hf : f_X7_follow_L140 M x1 x2 x3 x4 x6 x7 x8 x9 y0 k60 k71 = some r) : At p l e rm_X7_follow s m args below meth c 11 0 0 (QQ below args s B D Y r.2 o (some (.int r.1))) B D Y o 140 M [(0, .ref (B + 47)), (1, .int x1), (2, .int x2), (3, .int x3), (4, .int x4), (6, .int x6), (7, .int x7), (8, .int x8), (9, .int x9)] [.int y0] := by
  dsimp only [f_X7_follow_L140] at hf
  refine A_iload C (pc := 140) 5 rfl dX7_follow_140 ?_
  obtain ⟨z142, h142, hf⟩ := bd_i hf
  refine A_callS1 C (pc := 142) (A := [.int x6]) (rest := [.int y0]) k_X7_108 ky_X7_manyIn ks_X7_manyIn (m_X7_manyIn l B D Y o  h142) rfl rfl (Nat.le_of_ble_eq_true rfl) ⟨rfl, rfl, Nat.le_of_ble_eq_true rfl, Nat.le_of_ble_eq_true rfl⟩ ⟨Nat.zero_le _, Nat.zero_le _⟩ dX7_follow_142 ?_
  refine A_iload_n C (pc := 145) 3 rfl dX7_follow_145 ?_
  refine A_icmp_ne C (pc := 146) 153 (by decide) dX7_follow_146 hf (fun _ hf => ?_) (fun _ hf => ?_)
  · refine A_iconst C (pc := 153) ic_0 dX7_follow_153 ?_
    exact w_X7_follow_L154 C hr hk hk60 hk71 hf
  · refine A_iconst C (pc := 149) ic_1 dX7_follow_149 ?_
    refine A_goto C (pc := 150) 154 (by decide) dX7_follow_150 ?_
    exact w_X7_follow_L154 C hr hk hk60 hk71 hf
set_option maxRecDepth 100000 in
theorem w_X7_follow_L117 {M : Mem} {x1 : Int32} {x2 : Int32} {x3 : Int32} {x4 : Int32} {x6 : Int32} {x7 : Int32} {x8 : Int32} {y0 : Int32} {r : Int32 × Mem} (C : Cx p s m args c cX7_follow 11 RX7 B D Y) (hr : meth.sig.returnType = (some .int)) (hk : meth.locks = false)  {k60 : (Int32 × Mem) → Option (Int32 × Mem)} (hk60 : ∀ (x6 : Int32) (M : Mem), k60 (x6, M) = some r → At p l e rm_X7_follow s m args below meth c 11 0 0 (QQ below args s B D Y r.2 o (some (.int r.1))) B D Y o 60 M [(0, .ref (B + 47)), (1, .int x1), (2, .int x2), (3, .int x3), (4, .int x4), (6, .int x6)] []) {k71 : (Int32 × Int32) → Option (Int32 × Mem)} (hk71 : ∀ (x7 : Int32) (x8 : Int32), k71 (x7, x8) = some r → At p l e rm_X7_follow s m args below meth c 11 0 0 (QQ below args s B D Y r.2 o (some (.int r.1))) B D Y o 71 M [(0, .ref (B + 47)), (1, .int x1), (2, .int x2), (3, .int x3), (4, .int x4), (6, .int x6), (7, .int x7), (8, .int x8)] []) (hf : f_X7_follow_L117 M x1 x2 x3 x4 x6 x7 x8 y0 k60 k71 = some r) : At p l e rm_X7_follow s m args below meth c 11 0 0 (QQ below args s B D Y r.2 o (some (.int r.1))) B D Y o 117 M [(0, .ref (B + 47)), (1, .int x1), (2, .int x2), (3, .int x3), (4, .int x4), (6, .int x6), (7, .int x7), (8, .int x8)] [.int y0] := by
  dsimp only [f_X7_follow_L117] at hf
  refine A_istore C (pc := 117) [(0, .ref (B + 47)), (1, .int x1), (2, .int x2), (3, .int x3), (4, .int x4), (6, .int x6), (7, .int x7), (8, .int x8), (9, .int y0)] (by decide) [1, 2, 3, 4, 5, 6, 7, 8, 0] rfl dX7_follow_117 ?_
  refine A_iload_n C (pc := 119) 2 rfl dX7_follow_119 ?_
  refine A_iconst C (pc := 120) ic_m1 dX7_follow_120 ?_
  refine A_icmp_eq C (pc := 121) 175 (by decide) dX7_follow_121 hf (fun _ hf => ?_) (fun _ hf => ?_)
  · exact w_X7_follow_L175 C hr hk hk60 hk71 hf
  · refine A_iload C (pc := 124) 4 rfl dX7_follow_124 ?_
    refine A_if_eq C (pc := 126) 160 (by decide) dX7_follow_126 hf (fun _ hf => ?_) (fun _ hf => ?_)
    · refine A_iload C (pc := 160) 7 rfl dX7_follow_160 ?_
      refine A_iload_n C (pc := 162) 3 rfl dX7_follow_162 ?_
      refine A_icmp_ne C (pc := 163) 175 (by decide) dX7_follow_163 hf (fun _ hf => ?_) (fun _ hf => ?_)
      · exact w_X7_follow_L175 C hr hk hk60 hk71 hf
      · refine A_iload C (pc := 166) 5 rfl dX7_follow_166 ?_
        refine A_iload_n C (pc := 168) 2 rfl dX7_follow_168 ?_
        obtain ⟨z169, h169, hf⟩ := bd_i hf
        refine A_callS1 C (pc := 169) (A := [.int x6, .int x2]) (rest := []) k_X7_47 ky_X7_has ks_X7_has (m_X7_has l B D Y o  h169) rfl rfl (Nat.le_of_ble_eq_true rfl) ⟨rfl, rfl, Nat.le_of_ble_eq_true rfl, Nat.le_of_ble_eq_true rfl⟩ ⟨Nat.zero_le _, Nat.zero_le _⟩ dX7_follow_169 ?_
        refine A_if_eq C (pc := 172) 179 (by decide) dX7_follow_172 hf (fun _ hf => ?_) (fun _ hf => ?_)
        · exact w_X7_follow_L179 C hr hk hk60 hk71 hf
        · exact w_X7_follow_L175 C hr hk hk60 hk71 hf
    · refine A_iload C (pc := 129) 7 rfl dX7_follow_129 ?_
      refine A_iload_n C (pc := 131) 2 rfl dX7_follow_131 ?_
      refine A_icmp_ne C (pc := 132) 139 (by decide) dX7_follow_132 hf (fun _ hf => ?_) (fun _ hf => ?_)
      · refine A_iconst C (pc := 139) ic_0 dX7_follow_139 ?_
        exact w_X7_follow_L140 C hr hk hk60 hk71 hf
      · refine A_iconst C (pc := 135) ic_1 dX7_follow_135 ?_
        refine A_goto C (pc := 136) 140 (by decide) dX7_follow_136 ?_
        exact w_X7_follow_L140 C hr hk hk60 hk71 hf
set_option maxRecDepth 100000 in
theorem w_X7_follow_L116 {M : Mem} {x1 : Int32} {x2 : Int32} {x3 : Int32} {x4 : Int32} {x6 : Int32} {x7 : Int32} {x8 : Int32} {r : Int32 × Mem} (C : Cx p s m args c cX7_follow 11 RX7 B D Y) (hr : meth.sig.returnType = (some .int)) (hk : meth.locks = false)  {k60 : (Int32 × Mem) → Option (Int32 × Mem)} (hk60 : ∀ (x6 : Int32) (M : Mem), k60 (x6, M) = some r → At p l e rm_X7_follow s m args below meth c 11 0 0 (QQ below args s B D Y r.2 o (some (.int r.1))) B D Y o 60 M [(0, .ref (B + 47)), (1, .int x1), (2, .int x2), (3, .int x3), (4, .int x4), (6, .int x6)] []) {k71 : (Int32 × Int32) → Option (Int32 × Mem)} (hk71 : ∀ (x7 : Int32) (x8 : Int32), k71 (x7, x8) = some r → At p l e rm_X7_follow s m args below meth c 11 0 0 (QQ below args s B D Y r.2 o (some (.int r.1))) B D Y o 71 M [(0, .ref (B + 47)), (1, .int x1), (2, .int x2), (3, .int x3), (4, .int x4), (6, .int x6), (7, .int x7), (8, .int x8)] []) (hf : f_X7_follow_L116 M x1 x2 x3 x4 x6 x7 x8 k60 k71 = some r) : At p l e rm_X7_follow s m args below meth c 11 0 0 (QQ below args s B D Y r.2 o (some (.int r.1))) B D Y o 116 M [(0, .ref (B + 47)), (1, .int x1), (2, .int x2), (3, .int x3), (4, .int x4), (6, .int x6), (7, .int x7), (8, .int x8)] [] := by
  dsimp only [f_X7_follow_L116] at hf
  refine A_iconst C (pc := 116) ic_0 dX7_follow_116 ?_
  exact w_X7_follow_L117 C hr hk hk60 hk71 hf
set_option maxRecDepth 100000 in
theorem w_X7_follow_L71 {M : Mem} {x1 : Int32} {x2 : Int32} {x3 : Int32} {x4 : Int32} {x6 : Int32} {r : Int32 × Mem} (C : Cx p s m args c cX7_follow 11 RX7 B D Y) (hr : meth.sig.returnType = (some .int)) (hk : meth.locks = false)  {k60 : (Int32 × Mem) → Option (Int32 × Mem)} (hk60 : ∀ (x6 : Int32) (M : Mem), k60 (x6, M) = some r → At p l e rm_X7_follow s m args below meth c 11 0 0 (QQ below args s B D Y r.2 o (some (.int r.1))) B D Y o 60 M [(0, .ref (B + 47)), (1, .int x1), (2, .int x2), (3, .int x3), (4, .int x4), (6, .int x6)] []) : ∀ (n : Nat) (x7 : Int32) (x8 : Int32), f_X7_follow_L71 M x1 x2 x3 x4 x6 k60 n (x7, x8) = some r → At p l e rm_X7_follow s m args below meth c 11 0 0 (QQ below args s B D Y r.2 o (some (.int r.1))) B D Y o 71 M [(0, .ref (B + 47)), (1, .int x1), (2, .int x2), (3, .int x3), (4, .int x4), (6, .int x6), (7, .int x7), (8, .int x8)] [] := by
  intro n
  induction n with
  | zero => intro x7 x8 hf; exact nomatch (show (none : Option (Int32 × Mem)) = some r from hf)
  | succ n hk71 =>
    intro x7 x8 hf
    replace hf : g_X7_follow_L71 M x1 x2 x3 x4 x6 k60 (f_X7_follow_L71 M x1 x2 x3 x4 x6 k60 n) (x7, x8) = some r := hf
    dsimp only [g_X7_follow_L71] at hf
    refine A_iload C (pc := 71) 7 rfl dX7_follow_71 ?_
    refine A_aload_n C (pc := 73) 0 rfl dX7_follow_73 ?_
    refine A_g7_0 C (pc := 74) kf_X7_9 dX7_follow_74 ?_
    refine A_iload_n C (pc := 77) 1 rfl dX7_follow_77 ?_
    obtain ⟨c78, hf⟩ := chk_i hf
    refine A_iald C (pc := 78) (show IA 48 5 from ⟨rfl, rfl⟩) c78 dX7_follow_78 ?_
    refine A_icmp_ge C (pc := 79) 219 (by decide) dX7_follow_79 hf (fun _ hf => ?_) (fun _ hf => ?_)
    · refine A_aload_n C (pc := 219) 0 rfl dX7_follow_219 ?_
      refine A_g7_4 C (pc := 220) kf_X7_23 dX7_follow_220 ?_
      refine A_iload C (pc := 223) 5 rfl dX7_follow_223 ?_
      refine A_iload C (pc := 225) 6 rfl dX7_follow_225 ?_
      obtain ⟨c227, hf⟩ := chk_i hf
      obtain ⟨M227, e227, hf⟩ := bd_i hf
      refine A_iast C (pc := 227) (show IA 106 512 from ⟨rfl, rfl⟩) c227 dX7_follow_227 ?_
      refine A_nmM e227 ?_
      refine A_iinc C (pc := 228) (k0 := 5) [(0, .ref (B + 47)), (1, .int x1), (2, .int x2), (3, .int x3), (4, .int x4), (6, .int (x6 + (-1)))] rfl ic_m1 (by decide) [1, 2, 3, 4, 5, 0] rfl dX7_follow_228 ?_
      refine A_goto C (pc := 231) 60 (by decide) dX7_follow_231 ?_
      exact hk60 _ _ hf
    · refine A_iload C (pc := 82) 5 rfl dX7_follow_82 ?_
      refine A_iload C (pc := 84) 7 rfl dX7_follow_84 ?_
      obtain ⟨z86, h86, hf⟩ := bd_i hf
      refine A_callS1 C (pc := 86) (A := [.int x6, .int x8]) (rest := []) k_X7_47 ky_X7_has ks_X7_has (m_X7_has l B D Y o  h86) rfl rfl (Nat.le_of_ble_eq_true rfl) ⟨rfl, rfl, Nat.le_of_ble_eq_true rfl, Nat.le_of_ble_eq_true rfl⟩ ⟨Nat.zero_le _, Nat.zero_le _⟩ dX7_follow_86 ?_
      refine A_if_ne C (pc := 89) 116 (by decide) dX7_follow_89 hf (fun _ hf => ?_) (fun _ hf => ?_)
      · exact w_X7_follow_L116 C hr hk hk60 hk71 hf
      · refine A_aload_n C (pc := 92) 0 rfl dX7_follow_92 ?_
        refine A_g7_7 C (pc := 93) kf_X7_32 dX7_follow_93 ?_
        refine A_iload C (pc := 96) 7 rfl dX7_follow_96 ?_
        obtain ⟨c98, hf⟩ := chk_i hf
        refine A_iald C (pc := 98) (show IA 109 9 from ⟨rfl, rfl⟩) c98 dX7_follow_98 ?_
        refine A_iload C (pc := 99) 5 rfl dX7_follow_99 ?_
        refine A_iand C (pc := 101) dX7_follow_101 ?_
        refine A_aload_n C (pc := 102) 0 rfl dX7_follow_102 ?_
        refine A_g7_7 C (pc := 103) kf_X7_32 dX7_follow_103 ?_
        refine A_iload C (pc := 106) 7 rfl dX7_follow_106 ?_
        obtain ⟨c108, hf⟩ := chk_i hf
        refine A_iald C (pc := 108) (show IA 109 9 from ⟨rfl, rfl⟩) c108 dX7_follow_108 ?_
        refine A_icmp_ne C (pc := 109) 116 (by decide) dX7_follow_109 hf (fun _ hf => ?_) (fun _ hf => ?_)
        · exact w_X7_follow_L116 C hr hk hk60 hk71 hf
        · refine A_iconst C (pc := 112) ic_1 dX7_follow_112 ?_
          refine A_goto C (pc := 113) 117 (by decide) dX7_follow_113 ?_
          exact w_X7_follow_L117 C hr hk hk60 hk71 hf
set_option maxRecDepth 100000 in
theorem w_X7_follow_L60 {x1 : Int32} {x2 : Int32} {x3 : Int32} {x4 : Int32} {r : Int32 × Mem} (C : Cx p s m args c cX7_follow 11 RX7 B D Y) (hr : meth.sig.returnType = (some .int)) (hk : meth.locks = false)  : ∀ (n : Nat) (x6 : Int32) (M : Mem), f_X7_follow_L60 x1 x2 x3 x4 n (x6, M) = some r → At p l e rm_X7_follow s m args below meth c 11 0 0 (QQ below args s B D Y r.2 o (some (.int r.1))) B D Y o 60 M [(0, .ref (B + 47)), (1, .int x1), (2, .int x2), (3, .int x3), (4, .int x4), (6, .int x6)] [] := by
  intro n
  induction n with
  | zero => intro x6 M hf; exact nomatch (show (none : Option (Int32 × Mem)) = some r from hf)
  | succ n hk60 =>
    intro x6 M hf
    replace hf : g_X7_follow_L60 x1 x2 x3 x4 (f_X7_follow_L60 x1 x2 x3 x4 n) (x6, M) = some r := hf
    dsimp only [g_X7_follow_L60] at hf
    refine A_iload C (pc := 60) 5 rfl dX7_follow_60 ?_
    refine A_if_lt C (pc := 62) 234 (by decide) dX7_follow_62 hf (fun _ hf => ?_) (fun _ hf => ?_)
    · refine A_aload_n C (pc := 234) 0 rfl dX7_follow_234 ?_
      refine A_g7_4 C (pc := 235) kf_X7_23 dX7_follow_235 ?_
      refine A_iconst C (pc := 238) ic_0 dX7_follow_238 ?_
      obtain ⟨c239, hf⟩ := chk_i hf
      refine A_iald C (pc := 239) (show IA 106 512 from ⟨rfl, rfl⟩) c239 dX7_follow_239 ?_
      exact R_iM C (pc := 240) hr hk rfl dX7_follow_240 hf
    · refine A_iconst C (pc := 65) ic_0 dX7_follow_65 ?_
      refine A_istore C (pc := 66) [(0, .ref (B + 47)), (1, .int x1), (2, .int x2), (3, .int x3), (4, .int x4), (6, .int x6), (7, .int 0)] (by decide) [1, 2, 3, 4, 5, 6, 0] rfl dX7_follow_66 ?_
      refine A_iconst C (pc := 68) ic_0 dX7_follow_68 ?_
      refine A_istore C (pc := 69) [(0, .ref (B + 47)), (1, .int x1), (2, .int x2), (3, .int x3), (4, .int x4), (6, .int x6), (7, .int 0), (8, .int 0)] (by decide) [1, 2, 3, 4, 5, 6, 7, 0] rfl dX7_follow_69 ?_
      exact w_X7_follow_L71 C hr hk hk60 FU _ _  hf
set_option maxRecDepth 100000 in
theorem w_X7_follow_L15 {x1 : Int32} {x2 : Int32} {x3 : Int32} {x4 : Int32} {x5 : Int32} {r : Int32 × Mem} (C : Cx p s m args c cX7_follow 11 RX7 B D Y) (hr : meth.sig.returnType = (some .int)) (hk : meth.locks = false)  : ∀ (n : Nat) (x6 : Int32) (M : Mem), f_X7_follow_L15 x1 x2 x3 x4 x5 n (x6, M) = some r → At p l e rm_X7_follow s m args below meth c 11 0 0 (QQ below args s B D Y r.2 o (some (.int r.1))) B D Y o 15 M [(0, .ref (B + 47)), (1, .int x1), (2, .int x2), (3, .int x3), (4, .int x4), (5, .int x5), (6, .int x6)] [] := by
  intro n
  induction n with
  | zero => intro x6 M hf; exact nomatch (show (none : Option (Int32 × Mem)) = some r from hf)
  | succ n hk15 =>
    intro x6 M hf
    replace hf : g_X7_follow_L15 x1 x2 x3 x4 x5 (f_X7_follow_L15 x1 x2 x3 x4 x5 n) (x6, M) = some r := hf
    dsimp only [g_X7_follow_L15] at hf
    refine A_iload C (pc := 15) 6 rfl dX7_follow_15 ?_
    refine A_aload_n C (pc := 17) 0 rfl dX7_follow_17 ?_
    refine A_g7_0 C (pc := 18) kf_X7_9 dX7_follow_18 ?_
    refine A_iload_n C (pc := 21) 1 rfl dX7_follow_21 ?_
    obtain ⟨c22, hf⟩ := chk_i hf
    refine A_iald C (pc := 22) (show IA 48 5 from ⟨rfl, rfl⟩) c22 dX7_follow_22 ?_
    refine A_icmp_ge C (pc := 23) 46 (by decide) dX7_follow_23 hf (fun _ hf => ?_) (fun _ hf => ?_)
    · refine A_aload_n C (pc := 46) 0 rfl dX7_follow_46 ?_
      refine A_g7_4 C (pc := 47) kf_X7_23 dX7_follow_47 ?_
      refine A_iload C (pc := 50) 5 rfl dX7_follow_50 ?_
      refine A_iconst C (pc := 52) ic_1 dX7_follow_52 ?_
      obtain ⟨c53, hf⟩ := chk_i hf
      obtain ⟨M53, e53, hf⟩ := bd_i hf
      refine A_iast C (pc := 53) (show IA 106 512 from ⟨rfl, rfl⟩) c53 dX7_follow_53 ?_
      refine A_nmM e53 ?_
      refine A_iload C (pc := 54) 5 rfl dX7_follow_54 ?_
      refine A_iconst C (pc := 56) ic_1 dX7_follow_56 ?_
      refine A_isub C (pc := 57) dX7_follow_57 ?_
      obtain ⟨v58, e58, hf⟩ := bd_i hf
      refine A_nmI e58 ?_
      refine A_istore C (pc := 58) [(0, .ref (B + 47)), (1, .int x1), (2, .int x2), (3, .int x3), (4, .int x4), (6, .int v58)] (by decide) [1, 2, 3, 4, 5, 0] rfl dX7_follow_58 ?_
      exact w_X7_follow_L60 C hr hk FU _ _  hf
    · refine A_aload_n C (pc := 26) 0 rfl dX7_follow_26 ?_
      refine A_g7_7 C (pc := 27) kf_X7_32 dX7_follow_27 ?_
      refine A_iload C (pc := 30) 6 rfl dX7_follow_30 ?_
      refine A_aload_n C (pc := 32) 0 rfl dX7_follow_32 ?_
      refine A_iload_n C (pc := 33) 1 rfl dX7_follow_33 ?_
      refine A_iload C (pc := 34) 6 rfl dX7_follow_34 ?_
      obtain ⟨z36, h36, hf⟩ := bd_i hf
      refine A_callV1 C (pc := 36) (A := [.int x1, .int x6]) (rest := [.int x6, .ref (B + 109)]) k_X7_95 ky_X7_lowerOf kv_X7_lowerOf (m_X7_lowerOf l B D Y o  h36) (by decide) rfl rfl rfl rfl (Nat.le_of_ble_eq_true rfl) ⟨rfl, rfl, Nat.le_of_ble_eq_true rfl, Nat.le_of_ble_eq_true rfl⟩ ⟨Nat.zero_le _, Nat.zero_le _⟩ dX7_follow_36 ?_
      obtain ⟨c39, hf⟩ := chk_i hf
      obtain ⟨M39, e39, hf⟩ := bd_i hf
      refine A_iast C (pc := 39) (show IA 109 9 from ⟨rfl, rfl⟩) c39 dX7_follow_39 ?_
      refine A_nmM e39 ?_
      refine A_iinc C (pc := 40) (k0 := 6) [(0, .ref (B + 47)), (1, .int x1), (2, .int x2), (3, .int x3), (4, .int x4), (5, .int x5), (6, .int (x6 + 1))] rfl ic_1 (by decide) [1, 2, 3, 4, 5, 6, 0] rfl dX7_follow_40 ?_
      refine A_goto C (pc := 43) 15 (by decide) dX7_follow_43 ?_
      exact hk15 _ _ hf
set_option maxRecDepth 100000 in
theorem m_X7_follow (l : Launch) (B : Nat) (D : va_G) (Y : Nat → ClassId) (o : Ou) {M : Mem} {x1 : Int32} {x2 : Int32} {x3 : Int32} {x4 : Int32} {r : Int32 × Mem}  (hf : f_X7_follow M x1 x2 x3 x4 = some r) : MW l yX7_follow cX7_follow 11 (some .int) rm_X7_follow B D Y o [.ref (B + 47), .int x1, .int x2, .int x3, .int x4] M r.2 (some (.int r.1)) := by
  refine ofAt (L0 := [(0, .ref (B + 47)), (1, .int x1), (2, .int x2), (3, .int x3), (4, .int x4)]) (by decide +kernel) (Nat.le_of_ble_eq_true rfl) rfl (fun p e s m args below meth c C hr hk => ?_)
  dsimp only [f_X7_follow] at hf
  refine A_iconst C (pc := 0) ic_1 dX7_follow_0 ?_
  refine A_aload_n C (pc := 1) 0 rfl dX7_follow_1 ?_
  refine A_g7_0 C (pc := 2) kf_X7_9 dX7_follow_2 ?_
  refine A_iload_n C (pc := 5) 1 rfl dX7_follow_5 ?_
  obtain ⟨c6, hf⟩ := chk_i hf
  refine A_iald C (pc := 6) (show IA 48 5 from ⟨rfl, rfl⟩) c6 dX7_follow_6 ?_
  refine A_ishl C (pc := 7) dX7_follow_7 ?_
  refine A_iconst C (pc := 8) ic_1 dX7_follow_8 ?_
  refine A_isub C (pc := 9) dX7_follow_9 ?_
  obtain ⟨v10, e10, hf⟩ := bd_i hf
  refine A_nmI e10 ?_
  refine A_istore C (pc := 10) [(0, .ref (B + 47)), (1, .int x1), (2, .int x2), (3, .int x3), (4, .int x4), (5, .int v10)] (by decide) [1, 2, 3, 4, 5, 0] rfl dX7_follow_10 ?_
  refine A_iconst C (pc := 12) ic_0 dX7_follow_12 ?_
  refine A_istore C (pc := 13) [(0, .ref (B + 47)), (1, .int x1), (2, .int x2), (3, .int x3), (4, .int x4), (5, .int v10), (6, .int 0)] (by decide) [1, 2, 3, 4, 5, 6, 0] rfl dX7_follow_13 ?_
  exact w_X7_follow_L15 C hr hk FU _ _  hf
set_option maxRecDepth 100000 in
theorem m_X7_rowsOf (l : Launch) (B : Nat) (D : va_G) (Y : Nat → ClassId) (o : Ou) {M : Mem} {x1 : Int32} {r : Int32 × Mem}  (hf : f_X7_rowsOf M x1 = some r) : MW l yX7_rowsOf cX7_rowsOf 2 (some .int) rm_X7_rowsOf B D Y o [.ref (B + 47), .int x1] M r.2 (some (.int r.1)) := by
  refine ofAt (L0 := [(0, .ref (B + 47)), (1, .int x1)]) (by decide +kernel) (Nat.le_of_ble_eq_true rfl) rfl (fun p e s m args below meth c C hr hk => ?_)
  dsimp only [f_X7_rowsOf] at hf
  refine A_aload_n C (pc := 0) 0 rfl dX7_rowsOf_0 ?_
  refine A_iload_n C (pc := 1) 1 rfl dX7_rowsOf_1 ?_
  refine A_iconst C (pc := 2) ic_m1 dX7_rowsOf_2 ?_
  refine A_iconst C (pc := 3) ic_m1 dX7_rowsOf_3 ?_
  refine A_iconst C (pc := 4) ic_0 dX7_rowsOf_4 ?_
  obtain ⟨z5, h5, hf⟩ := bd_i hf
  refine A_callV1 C (pc := 5) (A := [.int x1, .int ((-1)), .int ((-1)), .int 0]) (rest := []) k_X7_133 ky_X7_follow kv_X7_follow (m_X7_follow l B D Y o  h5) (by decide) rfl rfl rfl rfl (Nat.le_of_ble_eq_true rfl) ⟨rfl, rfl, Nat.le_of_ble_eq_true rfl, Nat.le_of_ble_eq_true rfl⟩ ⟨Nat.zero_le _, Nat.zero_le _⟩ dX7_rowsOf_5 ?_
  exact R_iM C (pc := 8) hr hk rfl dX7_rowsOf_8 hf
set_option maxRecDepth 100000 in
theorem w_X7_lineUp_L110 {M : Mem} {x1 : Int32} {x3 : Int32} {x4 : Int32} {x5 : Int32} {x6 : Int32} {x7 : Int32} {x10 : Int32} {y0 : Int32} {r : Int32 × Mem} (C : Cx p s m args c cX7_lineUp 11 RX7 B D Y) (hr : meth.sig.returnType = (some .int)) (hk : meth.locks = false)  {k17 : (Int32 × Int32 × Int32 × Int32 × Mem) → Option (Int32 × Mem)} (hk17 : ∀ (x3 : Int32) (x4 : Int32) (x5 : Int32) (x6 : Int32) (M : Mem), k17 (x3, x4, x5, x6, M) = some r → At p l e rm_X7_lineUp s m args below meth c 11 0 0 (QQ below args s B D Y r.2 o (some (.int r.1))) B D Y o 17 M [(0, .ref (B + 47)), (1, .int x1), (3, .int x3), (4, .int x4), (5, .int x5), (6, .int x6)] []) {k34 : (Int32 × Int32 × Int32) → Option (Int32 × Mem)} (hk34 : ∀ (x3 : Int32) (x7 : Int32) (x8 : Int32), k34 (x3, x7, x8) = some r → At p l e rm_X7_lineUp s m args below meth c 11 0 0 (QQ below args s B D Y r.2 o (some (.int r.1))) B D Y o 34 M [(0, .ref (B + 47)), (1, .int x1), (3, .int x3), (4, .int x4), (5, .int x5), (6, .int x6), (7, .int x7), (8, .int x8)] []) (hf : f_X7_lineUp_L110 M x1 x3 x4 x5 x6 x7 x10 y0 k17 k34 = some r) : At p l e rm_X7_lineUp s m args below meth c 11 0 0 (QQ below args s B D Y r.2 o (some (.int r.1))) B D Y o 110 M [(0, .ref (B + 47)), (1, .int x1), (3, .int x3), (4, .int x4), (5, .int x5), (6, .int x6), (7, .int x7), (10, .int x10)] [.int y0] := by
  dsimp only [f_X7_lineUp_L110] at hf
  refine A_istore C (pc := 110) [(0, .ref (B + 47)), (1, .int x1), (3, .int x3), (4, .int x4), (5, .int x5), (6, .int x6), (7, .int x7), (8, .int y0), (10, .int x10)] (by decide) [1, 2, 3, 4, 5, 6, 7, 0, 8] rfl dX7_lineUp_110 ?_
  refine A_iload_n C (pc := 112) 2 rfl dX7_lineUp_112 ?_
  refine A_iload C (pc := 113) 7 rfl dX7_lineUp_113 ?_
  refine A_if_eq C (pc := 115) 122 (by decide) dX7_lineUp_115 hf (fun _ hf => ?_) (fun _ hf => ?_)
  · refine A_iload C (pc := 122) 8 rfl dX7_lineUp_122 ?_
    refine A_isub C (pc := 124) dX7_lineUp_124 ?_
    obtain ⟨v125, e125, hf⟩ := bd_i hf
    refine A_nmI e125 ?_
    refine A_istore_n C (pc := 125) [(0, .ref (B + 47)), (1, .int x1), (3, .int v125), (4, .int x4), (5, .int x5), (6, .int x6), (7, .int x7), (8, .int y0)] rfl (by decide) [1, 2, 0, 3, 4, 5, 6, 7] rfl dX7_lineUp_125 ?_
    refine A_iload C (pc := 126) 6 rfl dX7_lineUp_126 ?_
    refine A_iload C (pc := 128) 7 rfl dX7_lineUp_128 ?_
    refine A_if_eq C (pc := 130) 137 (by decide) dX7_lineUp_130 hf (fun _ hf => ?_) (fun _ hf => ?_)
    · refine A_iconst C (pc := 137) ic_1 dX7_lineUp_137 ?_
      refine A_iadd C (pc := 138) dX7_lineUp_138 ?_
      obtain ⟨v139, e139, hf⟩ := bd_i hf
      refine A_nmI e139 ?_
      refine A_istore C (pc := 139) [(0, .ref (B + 47)), (1, .int x1), (3, .int v125), (4, .int x4), (5, .int x5), (6, .int x6), (7, .int v139), (8, .int y0)] (by decide) [1, 2, 3, 4, 5, 6, 0, 7] rfl dX7_lineUp_139 ?_
      refine A_goto C (pc := 141) 34 (by decide) dX7_lineUp_141 ?_
      exact hk34 _ _ _ hf
    · refine A_iconst C (pc := 133) ic_0 dX7_lineUp_133 ?_
      refine A_goto C (pc := 134) 138 (by decide) dX7_lineUp_134 ?_
      refine A_iadd C (pc := 138) dX7_lineUp_138 ?_
      obtain ⟨v139, e139, hf⟩ := bd_i hf
      refine A_nmI e139 ?_
      refine A_istore C (pc := 139) [(0, .ref (B + 47)), (1, .int x1), (3, .int v125), (4, .int x4), (5, .int x5), (6, .int x6), (7, .int v139), (8, .int y0)] (by decide) [1, 2, 3, 4, 5, 6, 0, 7] rfl dX7_lineUp_139 ?_
      refine A_goto C (pc := 141) 34 (by decide) dX7_lineUp_141 ?_
      exact hk34 _ _ _ hf
  · refine A_iconst C (pc := 118) ic_0 dX7_lineUp_118 ?_
    refine A_goto C (pc := 119) 124 (by decide) dX7_lineUp_119 ?_
    refine A_isub C (pc := 124) dX7_lineUp_124 ?_
    obtain ⟨v125, e125, hf⟩ := bd_i hf
    refine A_nmI e125 ?_
    refine A_istore_n C (pc := 125) [(0, .ref (B + 47)), (1, .int x1), (3, .int v125), (4, .int x4), (5, .int x5), (6, .int x6), (7, .int x7), (8, .int y0)] rfl (by decide) [1, 2, 0, 3, 4, 5, 6, 7] rfl dX7_lineUp_125 ?_
    refine A_iload C (pc := 126) 6 rfl dX7_lineUp_126 ?_
    refine A_iload C (pc := 128) 7 rfl dX7_lineUp_128 ?_
    refine A_if_eq C (pc := 130) 137 (by decide) dX7_lineUp_130 hf (fun _ hf => ?_) (fun _ hf => ?_)
    · refine A_iconst C (pc := 137) ic_1 dX7_lineUp_137 ?_
      refine A_iadd C (pc := 138) dX7_lineUp_138 ?_
      obtain ⟨v139, e139, hf⟩ := bd_i hf
      refine A_nmI e139 ?_
      refine A_istore C (pc := 139) [(0, .ref (B + 47)), (1, .int x1), (3, .int v125), (4, .int x4), (5, .int x5), (6, .int x6), (7, .int v139), (8, .int y0)] (by decide) [1, 2, 3, 4, 5, 6, 0, 7] rfl dX7_lineUp_139 ?_
      refine A_goto C (pc := 141) 34 (by decide) dX7_lineUp_141 ?_
      exact hk34 _ _ _ hf
    · refine A_iconst C (pc := 133) ic_0 dX7_lineUp_133 ?_
      refine A_goto C (pc := 134) 138 (by decide) dX7_lineUp_134 ?_
      refine A_iadd C (pc := 138) dX7_lineUp_138 ?_
      obtain ⟨v139, e139, hf⟩ := bd_i hf
      refine A_nmI e139 ?_
      refine A_istore C (pc := 139) [(0, .ref (B + 47)), (1, .int x1), (3, .int v125), (4, .int x4), (5, .int x5), (6, .int x6), (7, .int v139), (8, .int y0)] (by decide) [1, 2, 3, 4, 5, 6, 0, 7] rfl dX7_lineUp_139 ?_
      refine A_goto C (pc := 141) 34 (by decide) dX7_lineUp_141 ?_
      exact hk34 _ _ _ hf
set_option maxRecDepth 100000 in
theorem w_X7_lineUp_L97 {M : Mem} {x1 : Int32} {x3 : Int32} {x4 : Int32} {x5 : Int32} {x6 : Int32} {x7 : Int32} {y0 : Int32} {r : Int32 × Mem} (C : Cx p s m args c cX7_lineUp 11 RX7 B D Y) (hr : meth.sig.returnType = (some .int)) (hk : meth.locks = false)  {k17 : (Int32 × Int32 × Int32 × Int32 × Mem) → Option (Int32 × Mem)} (hk17 : ∀ (x3 : Int32) (x4 : Int32) (x5 : Int32) (x6 : Int32) (M : Mem), k17 (x3, x4, x5, x6, M) = some r → At p l e rm_X7_lineUp s m args below meth c 11 0 0 (QQ below args s B D Y r.2 o (some (.int r.1))) B D Y o 17 M [(0, .ref (B + 47)), (1, .int x1), (3, .int x3), (4, .int x4), (5, .int x5), (6, .int x6)] []) {k34 : (Int32 × Int32 × Int32) → Option (Int32 × Mem)} (hk34 : ∀ (x3 : Int32) (x7 : Int32) (x8 : Int32), k34 (x3, x7, x8) = some r → At p l e rm_X7_lineUp s m args below meth c 11 0 0 (QQ below args s B D Y r.2 o (some (.int r.1))) B D Y o 34 M [(0, .ref (B + 47)), (1, .int x1), (3, .int x3), (4, .int x4), (5, .int x5), (6, .int x6), (7, .int x7), (8, .int x8)] []) (hf : f_X7_lineUp_L97 M x1 x3 x4 x5 x6 x7 y0 k17 k34 = some r) : At p l e rm_X7_lineUp s m args below meth c 11 0 0 (QQ below args s B D Y r.2 o (some (.int r.1))) B D Y o 97 M [(0, .ref (B + 47)), (1, .int x1), (3, .int x3), (4, .int x4), (5, .int x5), (6, .int x6), (7, .int x7)] [.int y0] := by
  dsimp only [f_X7_lineUp_L97] at hf
  refine A_istore C (pc := 97) [(0, .ref (B + 47)), (1, .int x1), (3, .int x3), (4, .int x4), (5, .int x5), (6, .int x6), (7, .int x7), (10, .int y0)] (by decide) [1, 2, 3, 4, 5, 6, 7, 0] rfl dX7_lineUp_97 ?_
  refine A_iload_n C (pc := 99) 2 rfl dX7_lineUp_99 ?_
  refine A_iload C (pc := 100) 7 rfl dX7_lineUp_100 ?_
  refine A_icmp_ge C (pc := 102) 109 (by decide) dX7_lineUp_102 hf (fun _ hf => ?_) (fun _ hf => ?_)
  · refine A_iconst C (pc := 109) ic_0 dX7_lineUp_109 ?_
    exact w_X7_lineUp_L110 C hr hk hk17 hk34 hf
  · refine A_iconst C (pc := 105) ic_1 dX7_lineUp_105 ?_
    refine A_goto C (pc := 106) 110 (by decide) dX7_lineUp_106 ?_
    exact w_X7_lineUp_L110 C hr hk hk17 hk34 hf
set_option maxRecDepth 100000 in
theorem w_X7_lineUp_L74 {M : Mem} {x1 : Int32} {x3 : Int32} {x4 : Int32} {x5 : Int32} {x6 : Int32} {x7 : Int32} {y0 : Int32} {r : Int32 × Mem} (C : Cx p s m args c cX7_lineUp 11 RX7 B D Y) (hr : meth.sig.returnType = (some .int)) (hk : meth.locks = false)  {k17 : (Int32 × Int32 × Int32 × Int32 × Mem) → Option (Int32 × Mem)} (hk17 : ∀ (x3 : Int32) (x4 : Int32) (x5 : Int32) (x6 : Int32) (M : Mem), k17 (x3, x4, x5, x6, M) = some r → At p l e rm_X7_lineUp s m args below meth c 11 0 0 (QQ below args s B D Y r.2 o (some (.int r.1))) B D Y o 17 M [(0, .ref (B + 47)), (1, .int x1), (3, .int x3), (4, .int x4), (5, .int x5), (6, .int x6)] []) {k34 : (Int32 × Int32 × Int32) → Option (Int32 × Mem)} (hk34 : ∀ (x3 : Int32) (x7 : Int32) (x8 : Int32), k34 (x3, x7, x8) = some r → At p l e rm_X7_lineUp s m args below meth c 11 0 0 (QQ below args s B D Y r.2 o (some (.int r.1))) B D Y o 34 M [(0, .ref (B + 47)), (1, .int x1), (3, .int x3), (4, .int x4), (5, .int x5), (6, .int x6), (7, .int x7), (8, .int x8)] []) (hf : f_X7_lineUp_L74 M x1 x3 x4 x5 x6 x7 y0 k17 k34 = some r) : At p l e rm_X7_lineUp s m args below meth c 11 0 0 (QQ below args s B D Y r.2 o (some (.int r.1))) B D Y o 74 M [(0, .ref (B + 47)), (1, .int x1), (3, .int x3), (4, .int x4), (5, .int x5), (6, .int x6), (7, .int x7)] [.int y0] := by
  dsimp only [f_X7_lineUp_L74] at hf
  refine A_istore C (pc := 74) [(0, .ref (B + 47)), (1, .int x1), (3, .int x3), (4, .int x4), (5, .int x5), (6, .int x6), (7, .int x7), (9, .int y0)] (by decide) [1, 2, 3, 4, 5, 6, 7, 0] rfl dX7_lineUp_74 ?_
  refine A_iload C (pc := 76) 7 rfl dX7_lineUp_76 ?_
  refine A_if_eq C (pc := 78) 96 (by decide) dX7_lineUp_78 hf (fun _ hf => ?_) (fun _ hf => ?_)
  · refine A_iconst C (pc := 96) ic_0 dX7_lineUp_96 ?_
    refine A_sub [0, 1, 2, 3, 4, 5, 6] rfl ?_
    exact w_X7_lineUp_L97 C hr hk hk17 hk34 hf
  · refine A_aload_n C (pc := 81) 0 rfl dX7_lineUp_81 ?_
    refine A_g7_4 C (pc := 82) kf_X7_23 dX7_lineUp_82 ?_
    refine A_iload C (pc := 85) 3 rfl dX7_lineUp_85 ?_
    refine A_iconst C (pc := 87) ic_1 dX7_lineUp_87 ?_
    refine A_iload C (pc := 88) 6 rfl dX7_lineUp_88 ?_
    refine A_ishl C (pc := 90) dX7_lineUp_90 ?_
    refine A_iadd C (pc := 91) dX7_lineUp_91 ?_
    obtain ⟨c92, hf⟩ := chk_i hf
    refine A_iald C (pc := 92) (show IA 106 512 from ⟨rfl, rfl⟩) c92 dX7_lineUp_92 ?_
    refine A_goto C (pc := 93) 97 (by decide) dX7_lineUp_93 ?_
    refine A_sub [0, 1, 2, 3, 4, 5, 6] rfl ?_
    exact w_X7_lineUp_L97 C hr hk hk17 hk34 hf
set_option maxRecDepth 100000 in
theorem w_X7_lineUp_L73 {M : Mem} {x1 : Int32} {x3 : Int32} {x4 : Int32} {x5 : Int32} {x6 : Int32} {x7 : Int32} {r : Int32 × Mem} (C : Cx p s m args c cX7_lineUp 11 RX7 B D Y) (hr : meth.sig.returnType = (some .int)) (hk : meth.locks = false)  {k17 : (Int32 × Int32 × Int32 × Int32 × Mem) → Option (Int32 × Mem)} (hk17 : ∀ (x3 : Int32) (x4 : Int32) (x5 : Int32) (x6 : Int32) (M : Mem), k17 (x3, x4, x5, x6, M) = some r → At p l e rm_X7_lineUp s m args below meth c 11 0 0 (QQ below args s B D Y r.2 o (some (.int r.1))) B D Y o 17 M [(0, .ref (B + 47)), (1, .int x1), (3, .int x3), (4, .int x4), (5, .int x5), (6, .int x6)] []) {k34 : (Int32 × Int32 × Int32) → Option (Int32 × Mem)} (hk34 : ∀ (x3 : Int32) (x7 : Int32) (x8 : Int32), k34 (x3, x7, x8) = some r → At p l e rm_X7_lineUp s m args below meth c 11 0 0 (QQ below args s B D Y r.2 o (some (.int r.1))) B D Y o 34 M [(0, .ref (B + 47)), (1, .int x1), (3, .int x3), (4, .int x4), (5, .int x5), (6, .int x6), (7, .int x7), (8, .int x8)] []) (hf : f_X7_lineUp_L73 M x1 x3 x4 x5 x6 x7 k17 k34 = some r) : At p l e rm_X7_lineUp s m args below meth c 11 0 0 (QQ below args s B D Y r.2 o (some (.int r.1))) B D Y o 73 M [(0, .ref (B + 47)), (1, .int x1), (3, .int x3), (4, .int x4), (5, .int x5), (6, .int x6), (7, .int x7)] [] := by
  dsimp only [f_X7_lineUp_L73] at hf
  refine A_iconst C (pc := 73) ic_0 dX7_lineUp_73 ?_
  exact w_X7_lineUp_L74 C hr hk hk17 hk34 hf
set_option maxRecDepth 100000 in
theorem w_X7_lineUp_L34 {M : Mem} {x1 : Int32} {x4 : Int32} {x5 : Int32} {x6 : Int32} {r : Int32 × Mem} (C : Cx p s m args c cX7_lineUp 11 RX7 B D Y) (hr : meth.sig.returnType = (some .int)) (hk : meth.locks = false)  {k17 : (Int32 × Int32 × Int32 × Int32 × Mem) → Option (Int32 × Mem)} (hk17 : ∀ (x3 : Int32) (x4 : Int32) (x5 : Int32) (x6 : Int32) (M : Mem), k17 (x3, x4, x5, x6, M) = some r → At p l e rm_X7_lineUp s m args below meth c 11 0 0 (QQ below args s B D Y r.2 o (some (.int r.1))) B D Y o 17 M [(0, .ref (B + 47)), (1, .int x1), (3, .int x3), (4, .int x4), (5, .int x5), (6, .int x6)] []) : ∀ (n : Nat) (x3 : Int32) (x7 : Int32) (x8 : Int32), f_X7_lineUp_L34 M x1 x4 x5 x6 k17 n (x3, x7, x8) = some r → At p l e rm_X7_lineUp s m args below meth c 11 0 0 (QQ below args s B D Y r.2 o (some (.int r.1))) B D Y o 34 M [(0, .ref (B + 47)), (1, .int x1), (3, .int x3), (4, .int x4), (5, .int x5), (6, .int x6), (7, .int x7), (8, .int x8)] [] := by
  intro n
  induction n with
  | zero => intro x3 x7 x8 hf; exact nomatch (show (none : Option (Int32 × Mem)) = some r from hf)
  | succ n hk34 =>
    intro x3 x7 x8 hf
    replace hf : g_X7_lineUp_L34 M x1 x4 x5 x6 k17 (f_X7_lineUp_L34 M x1 x4 x5 x6 k17 n) (x3, x7, x8) = some r := hf
    dsimp only [g_X7_lineUp_L34] at hf
    refine A_iload C (pc := 34) 7 rfl dX7_lineUp_34 ?_
    refine A_if_ne C (pc := 36) 144 (by decide) dX7_lineUp_36 hf (fun _ hf => ?_) (fun _ hf => ?_)
    · refine A_aload_n C (pc := 144) 0 rfl dX7_lineUp_144 ?_
      refine A_g7_6 C (pc := 145) kf_X7_29 dX7_lineUp_145 ?_
      refine A_iload C (pc := 148) 5 rfl dX7_lineUp_148 ?_
      refine A_iload C (pc := 150) 6 rfl dX7_lineUp_150 ?_
      obtain ⟨c152, hf⟩ := chk_i hf
      obtain ⟨M152, e152, hf⟩ := bd_i hf
      refine A_iast C (pc := 152) (show IA 108 9 from ⟨rfl, rfl⟩) c152 dX7_lineUp_152 ?_
      refine A_nmM e152 ?_
      refine A_iload C (pc := 153) 3 rfl dX7_lineUp_153 ?_
      refine A_iconst C (pc := 155) ic_1 dX7_lineUp_155 ?_
      refine A_iload C (pc := 156) 6 rfl dX7_lineUp_156 ?_
      refine A_ishl C (pc := 158) dX7_lineUp_158 ?_
      refine A_iadd C (pc := 159) dX7_lineUp_159 ?_
      obtain ⟨v160, e160, hf⟩ := bd_i hf
      refine A_nmI e160 ?_
      refine A_istore C (pc := 160) [(0, .ref (B + 47)), (1, .int x1), (3, .int x3), (4, .int v160), (5, .int x5), (6, .int x6), (7, .int x7)] (by decide) [1, 2, 3, 0, 4, 5, 6] rfl dX7_lineUp_160 ?_
      refine A_bipush C (pc := 162) bc_10 dX7_lineUp_162 ?_
      refine A_iload C (pc := 164) 4 rfl dX7_lineUp_164 ?_
      refine A_imul C (pc := 166) dX7_lineUp_166 ?_
      refine A_iload C (pc := 167) 6 rfl dX7_lineUp_167 ?_
      refine A_iadd C (pc := 169) dX7_lineUp_169 ?_
      refine A_iconst C (pc := 170) ic_1 dX7_lineUp_170 ?_
      refine A_iadd C (pc := 171) dX7_lineUp_171 ?_
      obtain ⟨v172, e172, hf⟩ := bd_i hf
      refine A_nmI e172 ?_
      refine A_istore C (pc := 172) [(0, .ref (B + 47)), (1, .int x1), (3, .int x3), (4, .int v160), (5, .int v172), (6, .int x6)] (by decide) [1, 2, 3, 4, 0, 5] rfl dX7_lineUp_172 ?_
      refine A_iinc C (pc := 174) (k0 := 5) [(0, .ref (B + 47)), (1, .int x1), (3, .int x3), (4, .int v160), (5, .int v172), (6, .int (x6 + 1))] rfl ic_1 (by decide) [1, 2, 3, 4, 5, 0] rfl dX7_lineUp_174 ?_
      refine A_goto C (pc := 177) 17 (by decide) dX7_lineUp_177 ?_
      exact hk17 _ _ _ _ _ hf
    · refine A_iload C (pc := 39) 3 rfl dX7_lineUp_39 ?_
      refine A_iload C (pc := 41) 6 rfl dX7_lineUp_41 ?_
      obtain ⟨z43, h43, hf⟩ := bd_i hf
      refine A_callS1 C (pc := 43) (A := [.int x4, .int x7]) (rest := []) k_X7_47 ky_X7_has ks_X7_has (m_X7_has l B D Y o  h43) rfl rfl (Nat.le_of_ble_eq_true rfl) ⟨rfl, rfl, Nat.le_of_ble_eq_true rfl, Nat.le_of_ble_eq_true rfl⟩ ⟨Nat.zero_le _, Nat.zero_le _⟩ dX7_lineUp_43 ?_
      refine A_if_ne C (pc := 46) 73 (by decide) dX7_lineUp_46 hf (fun _ hf => ?_) (fun _ hf => ?_)
      · refine A_sub [0, 1, 2, 3, 4, 5, 6] rfl ?_
        exact w_X7_lineUp_L73 C hr hk hk17 hk34 hf
      · refine A_aload_n C (pc := 49) 0 rfl dX7_lineUp_49 ?_
        refine A_g7_7 C (pc := 50) kf_X7_32 dX7_lineUp_50 ?_
        refine A_iload C (pc := 53) 6 rfl dX7_lineUp_53 ?_
        obtain ⟨c55, hf⟩ := chk_i hf
        refine A_iald C (pc := 55) (show IA 109 9 from ⟨rfl, rfl⟩) c55 dX7_lineUp_55 ?_
        refine A_iload C (pc := 56) 3 rfl dX7_lineUp_56 ?_
        refine A_iand C (pc := 58) dX7_lineUp_58 ?_
        refine A_aload_n C (pc := 59) 0 rfl dX7_lineUp_59 ?_
        refine A_g7_7 C (pc := 60) kf_X7_32 dX7_lineUp_60 ?_
        refine A_iload C (pc := 63) 6 rfl dX7_lineUp_63 ?_
        obtain ⟨c65, hf⟩ := chk_i hf
        refine A_iald C (pc := 65) (show IA 109 9 from ⟨rfl, rfl⟩) c65 dX7_lineUp_65 ?_
        refine A_icmp_ne C (pc := 66) 73 (by decide) dX7_lineUp_66 hf (fun _ hf => ?_) (fun _ hf => ?_)
        · refine A_sub [0, 1, 2, 3, 4, 5, 6] rfl ?_
          exact w_X7_lineUp_L73 C hr hk hk17 hk34 hf
        · refine A_iconst C (pc := 69) ic_1 dX7_lineUp_69 ?_
          refine A_goto C (pc := 70) 74 (by decide) dX7_lineUp_70 ?_
          refine A_sub [0, 1, 2, 3, 4, 5, 6] rfl ?_
          exact w_X7_lineUp_L74 C hr hk hk17 hk34 hf
set_option maxRecDepth 100000 in
theorem w_X7_lineUp_L17 {x1 : Int32} {r : Int32 × Mem} (C : Cx p s m args c cX7_lineUp 11 RX7 B D Y) (hr : meth.sig.returnType = (some .int)) (hk : meth.locks = false)  : ∀ (n : Nat) (x3 : Int32) (x4 : Int32) (x5 : Int32) (x6 : Int32) (M : Mem), f_X7_lineUp_L17 x1 n (x3, x4, x5, x6, M) = some r → At p l e rm_X7_lineUp s m args below meth c 11 0 0 (QQ below args s B D Y r.2 o (some (.int r.1))) B D Y o 17 M [(0, .ref (B + 47)), (1, .int x1), (3, .int x3), (4, .int x4), (5, .int x5), (6, .int x6)] [] := by
  intro n
  induction n with
  | zero => intro x3 x4 x5 x6 M hf; exact nomatch (show (none : Option (Int32 × Mem)) = some r from hf)
  | succ n hk17 =>
    intro x3 x4 x5 x6 M hf
    replace hf : g_X7_lineUp_L17 x1 (f_X7_lineUp_L17 x1 n) (x3, x4, x5, x6, M) = some r := hf
    dsimp only [g_X7_lineUp_L17] at hf
    refine A_iload C (pc := 17) 5 rfl dX7_lineUp_17 ?_
    refine A_aload_n C (pc := 19) 0 rfl dX7_lineUp_19 ?_
    refine A_g7_0 C (pc := 20) kf_X7_9 dX7_lineUp_20 ?_
    refine A_iload_n C (pc := 23) 1 rfl dX7_lineUp_23 ?_
    obtain ⟨c24, hf⟩ := chk_i hf
    refine A_iald C (pc := 24) (show IA 48 5 from ⟨rfl, rfl⟩) c24 dX7_lineUp_24 ?_
    refine A_icmp_ge C (pc := 25) 180 (by decide) dX7_lineUp_25 hf (fun _ hf => ?_) (fun _ hf => ?_)
    · refine A_iload C (pc := 180) 4 rfl dX7_lineUp_180 ?_
      exact R_iM C (pc := 182) hr hk rfl dX7_lineUp_182 hf
    · refine A_iconst C (pc := 28) ic_0 dX7_lineUp_28 ?_
      refine A_istore C (pc := 29) [(0, .ref (B + 47)), (1, .int x1), (3, .int x3), (4, .int x4), (5, .int x5), (6, .int x6), (7, .int 0)] (by decide) [1, 2, 3, 4, 5, 6, 0] rfl dX7_lineUp_29 ?_
      refine A_iconst C (pc := 31) ic_0 dX7_lineUp_31 ?_
      refine A_istore C (pc := 32) [(0, .ref (B + 47)), (1, .int x1), (3, .int x3), (4, .int x4), (5, .int x5), (6, .int x6), (7, .int 0), (8, .int 0)] (by decide) [1, 2, 3, 4, 5, 6, 7, 0] rfl dX7_lineUp_32 ?_
      exact w_X7_lineUp_L34 C hr hk hk17 FU _ _ _  hf
set_option maxRecDepth 100000 in
theorem m_X7_lineUp (l : Launch) (B : Nat) (D : va_G) (Y : Nat → ClassId) (o : Ou) {M : Mem} {x1 : Int32} {x2 : Int32} {r : Int32 × Mem}  (hf : f_X7_lineUp M x1 x2 = some r) : MW l yX7_lineUp cX7_lineUp 11 (some .int) rm_X7_lineUp B D Y o [.ref (B + 47), .int x1, .int x2] M r.2 (some (.int r.1)) := by
  refine ofAt (L0 := [(0, .ref (B + 47)), (1, .int x1), (2, .int x2)]) (by decide +kernel) (Nat.le_of_ble_eq_true rfl) rfl (fun p e s m args below meth c C hr hk => ?_)
  dsimp only [f_X7_lineUp] at hf
  refine A_aload_n C (pc := 0) 0 rfl dX7_lineUp_0 ?_
  refine A_iload_n C (pc := 1) 1 rfl dX7_lineUp_1 ?_
  obtain ⟨z2, h2, hf⟩ := bd_i hf
  refine A_callV1 C (pc := 2) (A := [.int x1]) (rest := []) k_X7_81 ky_X7_rowsOf kv_X7_rowsOf (m_X7_rowsOf l B D Y o  h2) (by decide) rfl rfl rfl rfl (Nat.le_of_ble_eq_true rfl) ⟨rfl, rfl, Nat.le_of_ble_eq_true rfl, Nat.le_of_ble_eq_true rfl⟩ ⟨Nat.zero_le _, Nat.zero_le _⟩ dX7_lineUp_2 ?_
  refine A_pop C (pc := 5) rfl dX7_lineUp_5 ?_
  refine A_iload_n C (pc := 6) 2 rfl dX7_lineUp_6 ?_
  refine A_istore_n C (pc := 7) [(0, .ref (B + 47)), (1, .int x1), (3, .int x2)] rfl (by decide) [1, 2, 0] rfl dX7_lineUp_7 ?_
  refine A_iconst C (pc := 8) ic_0 dX7_lineUp_8 ?_
  refine A_istore C (pc := 9) [(0, .ref (B + 47)), (1, .int x1), (3, .int x2), (4, .int 0)] (by decide) [1, 2, 3, 0] rfl dX7_lineUp_9 ?_
  refine A_iconst C (pc := 11) ic_0 dX7_lineUp_11 ?_
  refine A_istore C (pc := 12) [(0, .ref (B + 47)), (1, .int x1), (3, .int x2), (4, .int 0), (5, .int 0)] (by decide) [1, 2, 3, 4, 0] rfl dX7_lineUp_12 ?_
  refine A_iconst C (pc := 14) ic_0 dX7_lineUp_14 ?_
  refine A_istore C (pc := 15) [(0, .ref (B + 47)), (1, .int x1), (3, .int x2), (4, .int 0), (5, .int 0), (6, .int 0)] (by decide) [1, 2, 3, 4, 5, 0] rfl dX7_lineUp_15 ?_
  exact w_X7_lineUp_L17 C hr hk FU _ _ _ _ _  hf
set_option maxRecDepth 100000 in
theorem w_X7_straighten_L68 {x1 : Int32} {x3 : Int32} {x4 : Int32} {r : Int32 × Mem} (C : Cx p s m args c cX7_straighten 6 RX7 B D Y) (hr : meth.sig.returnType = (some .int)) (hk : meth.locks = false)  {k51 : (Int32 × Mem) → Option (Int32 × Mem)} (hk51 : ∀ (x4 : Int32) (M : Mem), k51 (x4, M) = some r → At p l e rm_X7_straighten s m args below meth c 6 0 0 (QQ below args s B D Y r.2 o (some (.int r.1))) B D Y o 51 M [(0, .ref (B + 47)), (1, .int x1), (3, .int x3), (4, .int x4)] []) : ∀ (n : Nat) (x5 : Int32) (M : Mem), f_X7_straighten_L68 x1 x3 x4 k51 n (x5, M) = some r → At p l e rm_X7_straighten s m args below meth c 6 0 0 (QQ below args s B D Y r.2 o (some (.int r.1))) B D Y o 68 M [(0, .ref (B + 47)), (1, .int x1), (3, .int x3), (4, .int x4), (5, .int x5)] [] := by
  intro n
  induction n with
  | zero => intro x5 M hf; exact nomatch (show (none : Option (Int32 × Mem)) = some r from hf)
  | succ n hk68 =>
    intro x5 M hf
    replace hf : g_X7_straighten_L68 x1 x3 x4 k51 (f_X7_straighten_L68 x1 x3 x4 k51 n) (x5, M) = some r := hf
    dsimp only [g_X7_straighten_L68] at hf
    refine A_iload C (pc := 68) 4 rfl dX7_straighten_68 ?_
    refine A_aload_n C (pc := 70) 0 rfl dX7_straighten_70 ?_
    refine A_g7_0 C (pc := 71) kf_X7_9 dX7_straighten_71 ?_
    refine A_iload_n C (pc := 74) 1 rfl dX7_straighten_74 ?_
    obtain ⟨c75, hf⟩ := chk_i hf
    refine A_iald C (pc := 75) (show IA 48 5 from ⟨rfl, rfl⟩) c75 dX7_straighten_75 ?_
    refine A_icmp_ge C (pc := 76) 108 (by decide) dX7_straighten_76 hf (fun _ hf => ?_) (fun _ hf => ?_)
    · refine A_iinc C (pc := 108) (k0 := 3) [(0, .ref (B + 47)), (1, .int x1), (3, .int x3), (4, .int (x4 + 1))] rfl ic_1 (by decide) [1, 2, 3, 0] rfl dX7_straighten_108 ?_
      refine A_goto C (pc := 111) 51 (by decide) dX7_straighten_111 ?_
      exact hk51 _ _ hf
    · refine A_aload_n C (pc := 79) 0 rfl dX7_straighten_79 ?_
      refine A_g7_2 C (pc := 80) kf_X7_20 dX7_straighten_80 ?_
      refine A_iload_n C (pc := 83) 1 rfl dX7_straighten_83 ?_
      obtain ⟨c84, hf⟩ := chk_i hf
      refine A_aB C (pc := 84) c84 dX7_straighten_84 ?_
      refine A_aload_n C (pc := 85) 0 rfl dX7_straighten_85 ?_
      refine A_g7_6 C (pc := 86) kf_X7_29 dX7_straighten_86 ?_
      refine A_iload C (pc := 89) 3 rfl dX7_straighten_89 ?_
      obtain ⟨c91, hf⟩ := chk_i hf
      refine A_iald C (pc := 91) (show IA 108 9 from ⟨rfl, rfl⟩) c91 dX7_straighten_91 ?_
      obtain ⟨c92, hf⟩ := chk_i hf
      refine A_aR C (pc := 92) (kBel (inb_lt c84)) c92 dX7_straighten_92 ?_
      refine A_aload_n C (pc := 93) 0 rfl dX7_straighten_93 ?_
      refine A_g7_6 C (pc := 94) kf_X7_29 dX7_straighten_94 ?_
      refine A_iload C (pc := 97) 4 rfl dX7_straighten_97 ?_
      obtain ⟨c99, hf⟩ := chk_i hf
      refine A_iald C (pc := 99) (show IA 108 9 from ⟨rfl, rfl⟩) c99 dX7_straighten_99 ?_
      refine A_iconst C (pc := 100) ic_1 dX7_straighten_100 ?_
      obtain ⟨c101, hf⟩ := chk_i hf
      obtain ⟨b101, hf⟩ := chk_i hf
      obtain ⟨M101, e101, hf⟩ := bd_i hf
      refine A_zast C (pc := 101) (kRow (kBel (inb_lt c84)) (inb_lt c92)) c101 b101 dX7_straighten_101 ?_
      refine A_nmM e101 ?_
      refine A_iinc C (pc := 102) (k0 := 4) [(0, .ref (B + 47)), (1, .int x1), (3, .int x3), (4, .int x4), (5, .int (x5 + 1))] rfl ic_1 (by decide) [1, 2, 3, 4, 0] rfl dX7_straighten_102 ?_
      refine A_goto C (pc := 105) 68 (by decide) dX7_straighten_105 ?_
      exact hk68 _ _ hf
set_option maxRecDepth 100000 in
theorem w_X7_straighten_L51 {x1 : Int32} {x3 : Int32} {r : Int32 × Mem} (C : Cx p s m args c cX7_straighten 6 RX7 B D Y) (hr : meth.sig.returnType = (some .int)) (hk : meth.locks = false)  : ∀ (n : Nat) (x4 : Int32) (M : Mem), f_X7_straighten_L51 x1 x3 n (x4, M) = some r → At p l e rm_X7_straighten s m args below meth c 6 0 0 (QQ below args s B D Y r.2 o (some (.int r.1))) B D Y o 51 M [(0, .ref (B + 47)), (1, .int x1), (3, .int x3), (4, .int x4)] [] := by
  intro n
  induction n with
  | zero => intro x4 M hf; exact nomatch (show (none : Option (Int32 × Mem)) = some r from hf)
  | succ n hk51 =>
    intro x4 M hf
    replace hf : g_X7_straighten_L51 x1 x3 (f_X7_straighten_L51 x1 x3 n) (x4, M) = some r := hf
    dsimp only [g_X7_straighten_L51] at hf
    refine A_iload C (pc := 51) 3 rfl dX7_straighten_51 ?_
    refine A_aload_n C (pc := 53) 0 rfl dX7_straighten_53 ?_
    refine A_g7_0 C (pc := 54) kf_X7_9 dX7_straighten_54 ?_
    refine A_iload_n C (pc := 57) 1 rfl dX7_straighten_57 ?_
    obtain ⟨c58, hf⟩ := chk_i hf
    refine A_iald C (pc := 58) (show IA 48 5 from ⟨rfl, rfl⟩) c58 dX7_straighten_58 ?_
    refine A_icmp_ge C (pc := 59) 114 (by decide) dX7_straighten_59 hf (fun _ hf => ?_) (fun _ hf => ?_)
    · refine A_aload_n C (pc := 114) 0 rfl dX7_straighten_114 ?_
      refine A_iload_n C (pc := 115) 1 rfl dX7_straighten_115 ?_
      obtain ⟨z116, h116, hf⟩ := bd_i hf
      refine A_callV1 C (pc := 116) (A := [.int x1]) (rest := []) k_X7_59 ky_X7_pairsOf kv_X7_pairsOf (m_X7_pairsOf l B D Y o  h116) (by decide) rfl rfl rfl rfl (Nat.le_of_ble_eq_true rfl) ⟨rfl, rfl, Nat.le_of_ble_eq_true rfl, Nat.le_of_ble_eq_true rfl⟩ ⟨Nat.zero_le _, Nat.zero_le _⟩ dX7_straighten_116 ?_
      refine A_iload_n C (pc := 119) 2 rfl dX7_straighten_119 ?_
      refine A_isub C (pc := 120) dX7_straighten_120 ?_
      exact R_iM C (pc := 121) hr hk rfl dX7_straighten_121 hf
    · refine A_iload C (pc := 62) 3 rfl dX7_straighten_62 ?_
      refine A_iconst C (pc := 64) ic_1 dX7_straighten_64 ?_
      refine A_iadd C (pc := 65) dX7_straighten_65 ?_
      obtain ⟨v66, e66, hf⟩ := bd_i hf
      refine A_nmI e66 ?_
      refine A_istore C (pc := 66) [(0, .ref (B + 47)), (1, .int x1), (3, .int x3), (4, .int x4), (5, .int v66)] (by decide) [1, 2, 3, 4, 0] rfl dX7_straighten_66 ?_
      exact w_X7_straighten_L68 C hr hk hk51 FU _ _  hf
set_option maxRecDepth 100000 in
theorem w_X7_straighten_L26 {M : Mem} {x1 : Int32} {x2 : Int32} {y0 : Int32} {r : Int32 × Mem} (C : Cx p s m args c cX7_straighten 6 RX7 B D Y) (hr : meth.sig.returnType = (some .int)) (hk : meth.locks = false)  (hf : f_X7_straighten_L26 M x1 x2 y0 = some r) : At p l e rm_X7_straighten s m args below meth c 6 0 0 (QQ below args s B D Y r.2 o (some (.int r.1))) B D Y o 26 M [(0, .ref (B + 47)), (1, .int x1), (2, .int x2)] [.int y0, .ref (B + 47)] := by
  dsimp only [f_X7_straighten_L26] at hf
  refine A_iconst C (pc := 26) ic_1 dX7_straighten_26 ?_
  obtain ⟨z27, h27, hf⟩ := bd_i hf
  refine A_callV1 C (pc := 27) (A := [.int y0, .int 1]) (rest := []) k_X7_51 ky_X7_lets kv_X7_lets (m_X7_lets l B D Y o  h27) (by decide) rfl rfl rfl rfl (Nat.le_of_ble_eq_true rfl) ⟨rfl, rfl, Nat.le_of_ble_eq_true rfl, Nat.le_of_ble_eq_true rfl⟩ ⟨Nat.zero_le _, Nat.zero_le _⟩ dX7_straighten_27 ?_
  refine A_if_ne C (pc := 30) 35 (by decide) dX7_straighten_30 hf (fun _ hf => ?_) (fun _ hf => ?_)
  · refine A_aload_n C (pc := 35) 0 rfl dX7_straighten_35 ?_
    refine A_iload_n C (pc := 36) 1 rfl dX7_straighten_36 ?_
    obtain ⟨z37, h37, hf⟩ := bd_i hf
    refine A_callV1 C (pc := 37) (A := [.int x1]) (rest := []) k_X7_59 ky_X7_pairsOf kv_X7_pairsOf (m_X7_pairsOf l B D Y o  h37) (by decide) rfl rfl rfl rfl (Nat.le_of_ble_eq_true rfl) ⟨rfl, rfl, Nat.le_of_ble_eq_true rfl, Nat.le_of_ble_eq_true rfl⟩ ⟨Nat.zero_le _, Nat.zero_le _⟩ dX7_straighten_37 ?_
    refine A_istore_n C (pc := 40) [(0, .ref (B + 47)), (1, .int x1), (2, .int x2), (3, .int z37)] rfl (by decide) [1, 2, 3, 0] rfl dX7_straighten_40 ?_
    refine A_aload_n C (pc := 41) 0 rfl dX7_straighten_41 ?_
    refine A_iload_n C (pc := 42) 1 rfl dX7_straighten_42 ?_
    refine A_iload_n C (pc := 43) 2 rfl dX7_straighten_43 ?_
    obtain ⟨z44, h44, hf⟩ := bd_i hf
    refine A_callV1 C (pc := 44) (A := [.int x1, .int x2]) (rest := []) k_X7_84 ky_X7_lineUp kv_X7_lineUp (m_X7_lineUp l B D Y o  h44) (by decide) rfl rfl rfl rfl (Nat.le_of_ble_eq_true rfl) ⟨rfl, rfl, Nat.le_of_ble_eq_true rfl, Nat.le_of_ble_eq_true rfl⟩ ⟨Nat.zero_le _, Nat.zero_le _⟩ dX7_straighten_44 ?_
    refine A_pop C (pc := 47) rfl dX7_straighten_47 ?_
    refine A_iconst C (pc := 48) ic_0 dX7_straighten_48 ?_
    refine A_istore C (pc := 49) [(0, .ref (B + 47)), (1, .int x1), (3, .int z37), (4, .int 0)] (by decide) [1, 2, 4, 0] rfl dX7_straighten_49 ?_
    exact w_X7_straighten_L51 C hr hk FU _ _  hf
  · refine A_iconst C (pc := 33) ic_0 dX7_straighten_33 ?_
    exact R_iM C (pc := 34) hr hk rfl dX7_straighten_34 hf
set_option maxRecDepth 100000 in
theorem w_X7_straighten_L25 {M : Mem} {x1 : Int32} {x2 : Int32} {r : Int32 × Mem} (C : Cx p s m args c cX7_straighten 6 RX7 B D Y) (hr : meth.sig.returnType = (some .int)) (hk : meth.locks = false)  (hf : f_X7_straighten_L25 M x1 x2 = some r) : At p l e rm_X7_straighten s m args below meth c 6 0 0 (QQ below args s B D Y r.2 o (some (.int r.1))) B D Y o 25 M [(0, .ref (B + 47)), (1, .int x1), (2, .int x2)] [.ref (B + 47)] := by
  dsimp only [f_X7_straighten_L25] at hf
  refine A_iconst C (pc := 25) ic_0 dX7_straighten_25 ?_
  exact w_X7_straighten_L26 C hr hk hf
set_option maxRecDepth 100000 in
theorem m_X7_straighten (l : Launch) (B : Nat) (D : va_G) (Y : Nat → ClassId) (o : Ou) {M : Mem} {x1 : Int32} {x2 : Int32} {r : Int32 × Mem}  (hf : f_X7_straighten M x1 x2 = some r) : MW l yX7_straighten cX7_straighten 6 (some .int) rm_X7_straighten B D Y o [.ref (B + 47), .int x1, .int x2] M r.2 (some (.int r.1)) := by
  refine ofAt (L0 := [(0, .ref (B + 47)), (1, .int x1), (2, .int x2)]) (by decide +kernel) (Nat.le_of_ble_eq_true rfl) rfl (fun p e s m args below meth c C hr hk => ?_)
  dsimp only [f_X7_straighten] at hf
  refine A_aload_n C (pc := 0) 0 rfl dX7_straighten_0 ?_
  refine A_iload_n C (pc := 1) 1 rfl dX7_straighten_1 ?_
  obtain ⟨z2, h2, hf⟩ := bd_i hf
  refine A_callS1 C (pc := 2) (A := [.int x1]) (rest := [.ref (B + 47)]) k_X7_43 ky_X7_isOrder ks_X7_isOrder (m_X7_isOrder l B D Y o  h2) rfl rfl (Nat.le_of_ble_eq_true rfl) ⟨rfl, rfl, Nat.le_of_ble_eq_true rfl, Nat.le_of_ble_eq_true rfl⟩ ⟨Nat.zero_le _, Nat.zero_le _⟩ dX7_straighten_2 ?_
  refine A_if_eq C (pc := 5) 25 (by decide) dX7_straighten_5 hf (fun _ hf => ?_) (fun _ hf => ?_)
  · exact w_X7_straighten_L25 C hr hk hf
  · refine A_iload_n C (pc := 8) 2 rfl dX7_straighten_8 ?_
    refine A_if_lt C (pc := 9) 25 (by decide) dX7_straighten_9 hf (fun _ hf => ?_) (fun _ hf => ?_)
    · exact w_X7_straighten_L25 C hr hk hf
    · refine A_iload_n C (pc := 12) 2 rfl dX7_straighten_12 ?_
      refine A_aload_n C (pc := 13) 0 rfl dX7_straighten_13 ?_
      refine A_iload_n C (pc := 14) 1 rfl dX7_straighten_14 ?_
      obtain ⟨z15, h15, hf⟩ := bd_i hf
      refine A_callV1 C (pc := 15) (A := [.int x1]) (rest := [.int x2, .ref (B + 47)]) k_X7_81 ky_X7_rowsOf kv_X7_rowsOf (m_X7_rowsOf l B D Y o  h15) (by decide) rfl rfl rfl rfl (Nat.le_of_ble_eq_true rfl) ⟨rfl, rfl, Nat.le_of_ble_eq_true rfl, Nat.le_of_ble_eq_true rfl⟩ ⟨Nat.zero_le _, Nat.zero_le _⟩ dX7_straighten_15 ?_
      refine A_icmp_ge C (pc := 18) 25 (by decide) dX7_straighten_18 hf (fun _ hf => ?_) (fun _ hf => ?_)
      · exact w_X7_straighten_L25 C hr hk hf
      · refine A_iconst C (pc := 21) ic_1 dX7_straighten_21 ?_
        refine A_goto C (pc := 22) 26 (by decide) dX7_straighten_22 ?_
        exact w_X7_straighten_L26 C hr hk hf
set_option maxRecDepth 100000 in
theorem w_X7_turn_L30 {x1 : Int32} {x2 : Int32} {r : Int32 × Mem} (C : Cx p s m args c cX7_turn 5 RX7 B D Y) (hr : meth.sig.returnType = (some .int)) (hk : meth.locks = false)  {k16 : (Int32 × Mem) → Option (Int32 × Mem)} (hk16 : ∀ (x2 : Int32) (M : Mem), k16 (x2, M) = some r → At p l e rm_X7_turn s m args below meth c 5 0 0 (QQ below args s B D Y r.2 o (some (.int r.1))) B D Y o 16 M [(0, .ref (B + 47)), (1, .int x1), (2, .int x2)] []) : ∀ (n : Nat) (x3 : Int32) (M : Mem), f_X7_turn_L30 x1 x2 k16 n (x3, M) = some r → At p l e rm_X7_turn s m args below meth c 5 0 0 (QQ below args s B D Y r.2 o (some (.int r.1))) B D Y o 30 M [(0, .ref (B + 47)), (1, .int x1), (2, .int x2), (3, .int x3)] [] := by
  intro n
  induction n with
  | zero => intro x3 M hf; exact nomatch (show (none : Option (Int32 × Mem)) = some r from hf)
  | succ n hk30 =>
    intro x3 M hf
    replace hf : g_X7_turn_L30 x1 x2 k16 (f_X7_turn_L30 x1 x2 k16 n) (x3, M) = some r := hf
    dsimp only [g_X7_turn_L30] at hf
    refine A_iload_n C (pc := 30) 3 rfl dX7_turn_30 ?_
    refine A_aload_n C (pc := 31) 0 rfl dX7_turn_31 ?_
    refine A_g7_0 C (pc := 32) kf_X7_9 dX7_turn_32 ?_
    refine A_iload_n C (pc := 35) 1 rfl dX7_turn_35 ?_
    obtain ⟨c36, hf⟩ := chk_i hf
    refine A_iald C (pc := 36) (show IA 48 5 from ⟨rfl, rfl⟩) c36 dX7_turn_36 ?_
    refine A_icmp_ge C (pc := 37) 90 (by decide) dX7_turn_37 hf (fun _ hf => ?_) (fun _ hf => ?_)
    · refine A_iinc C (pc := 90) (k0 := 2) [(0, .ref (B + 47)), (1, .int x1), (2, .int (x2 + 1))] rfl ic_1 (by decide) [1, 2, 0] rfl dX7_turn_90 ?_
      refine A_goto C (pc := 93) 16 (by decide) dX7_turn_93 ?_
      exact hk16 _ _ hf
    · refine A_aload_n C (pc := 40) 0 rfl dX7_turn_40 ?_
      refine A_g7_2 C (pc := 41) kf_X7_20 dX7_turn_41 ?_
      refine A_iload_n C (pc := 44) 1 rfl dX7_turn_44 ?_
      obtain ⟨c45, hf⟩ := chk_i hf
      refine A_aB C (pc := 45) c45 dX7_turn_45 ?_
      refine A_iload_n C (pc := 46) 2 rfl dX7_turn_46 ?_
      obtain ⟨c47, hf⟩ := chk_i hf
      refine A_aR C (pc := 47) (kBel (inb_lt c45)) c47 dX7_turn_47 ?_
      refine A_iload_n C (pc := 48) 3 rfl dX7_turn_48 ?_
      obtain ⟨c49, hf⟩ := chk_i hf
      refine A_zald C (pc := 49) (kRow (kBel (inb_lt c45)) (inb_lt c47)) c49 dX7_turn_49 ?_
      obtain ⟨v50, e50, hf⟩ := bd_i hf
      refine A_nmI e50 ?_
      refine A_istore C (pc := 50) [(0, .ref (B + 47)), (1, .int x1), (2, .int x2), (3, .int x3), (4, .int v50)] (by decide) [1, 2, 3, 4, 0] rfl dX7_turn_50 ?_
      refine A_aload_n C (pc := 52) 0 rfl dX7_turn_52 ?_
      refine A_g7_2 C (pc := 53) kf_X7_20 dX7_turn_53 ?_
      refine A_iload_n C (pc := 56) 1 rfl dX7_turn_56 ?_
      obtain ⟨c57, hf⟩ := chk_i hf
      refine A_aB C (pc := 57) c57 dX7_turn_57 ?_
      refine A_iload_n C (pc := 58) 2 rfl dX7_turn_58 ?_
      obtain ⟨c59, hf⟩ := chk_i hf
      refine A_aR C (pc := 59) (kBel (inb_lt c57)) c59 dX7_turn_59 ?_
      refine A_iload_n C (pc := 60) 3 rfl dX7_turn_60 ?_
      refine A_aload_n C (pc := 61) 0 rfl dX7_turn_61 ?_
      refine A_g7_2 C (pc := 62) kf_X7_20 dX7_turn_62 ?_
      refine A_iload_n C (pc := 65) 1 rfl dX7_turn_65 ?_
      obtain ⟨c66, hf⟩ := chk_i hf
      refine A_aB C (pc := 66) c66 dX7_turn_66 ?_
      refine A_iload_n C (pc := 67) 3 rfl dX7_turn_67 ?_
      obtain ⟨c68, hf⟩ := chk_i hf
      refine A_aR C (pc := 68) (kBel (inb_lt c66)) c68 dX7_turn_68 ?_
      refine A_iload_n C (pc := 69) 2 rfl dX7_turn_69 ?_
      obtain ⟨c70, hf⟩ := chk_i hf
      refine A_zald C (pc := 70) (kRow (kBel (inb_lt c66)) (inb_lt c68)) c70 dX7_turn_70 ?_
      obtain ⟨c71, hf⟩ := chk_i hf
      obtain ⟨b71, hf⟩ := chk_i hf
      obtain ⟨M71, e71, hf⟩ := bd_i hf
      refine A_zast C (pc := 71) (kRow (kBel (inb_lt c57)) (inb_lt c59)) c71 b71 dX7_turn_71 ?_
      refine A_nmM e71 ?_
      refine A_aload_n C (pc := 72) 0 rfl dX7_turn_72 ?_
      refine A_g7_2 C (pc := 73) kf_X7_20 dX7_turn_73 ?_
      refine A_iload_n C (pc := 76) 1 rfl dX7_turn_76 ?_
      obtain ⟨c77, hf⟩ := chk_i hf
      refine A_aB C (pc := 77) c77 dX7_turn_77 ?_
      refine A_iload_n C (pc := 78) 3 rfl dX7_turn_78 ?_
      obtain ⟨c79, hf⟩ := chk_i hf
      refine A_aR C (pc := 79) (kBel (inb_lt c77)) c79 dX7_turn_79 ?_
      refine A_iload_n C (pc := 80) 2 rfl dX7_turn_80 ?_
      refine A_iload C (pc := 81) 4 rfl dX7_turn_81 ?_
      obtain ⟨c83, hf⟩ := chk_i hf
      obtain ⟨b83, hf⟩ := chk_i hf
      obtain ⟨M83, e83, hf⟩ := bd_i hf
      refine A_zast C (pc := 83) (kRow (kBel (inb_lt c77)) (inb_lt c79)) c83 b83 dX7_turn_83 ?_
      refine A_nmM e83 ?_
      refine A_iinc C (pc := 84) (k0 := 3) [(0, .ref (B + 47)), (1, .int x1), (2, .int x2), (3, .int (x3 + 1))] rfl ic_1 (by decide) [1, 2, 3, 0] rfl dX7_turn_84 ?_
      refine A_goto C (pc := 87) 30 (by decide) dX7_turn_87 ?_
      exact hk30 _ _ hf
set_option maxRecDepth 100000 in
theorem w_X7_turn_L16 {x1 : Int32} {r : Int32 × Mem} (C : Cx p s m args c cX7_turn 5 RX7 B D Y) (hr : meth.sig.returnType = (some .int)) (hk : meth.locks = false)  : ∀ (n : Nat) (x2 : Int32) (M : Mem), f_X7_turn_L16 x1 n (x2, M) = some r → At p l e rm_X7_turn s m args below meth c 5 0 0 (QQ below args s B D Y r.2 o (some (.int r.1))) B D Y o 16 M [(0, .ref (B + 47)), (1, .int x1), (2, .int x2)] [] := by
  intro n
  induction n with
  | zero => intro x2 M hf; exact nomatch (show (none : Option (Int32 × Mem)) = some r from hf)
  | succ n hk16 =>
    intro x2 M hf
    replace hf : g_X7_turn_L16 x1 (f_X7_turn_L16 x1 n) (x2, M) = some r := hf
    dsimp only [g_X7_turn_L16] at hf
    refine A_iload_n C (pc := 16) 2 rfl dX7_turn_16 ?_
    refine A_aload_n C (pc := 17) 0 rfl dX7_turn_17 ?_
    refine A_g7_0 C (pc := 18) kf_X7_9 dX7_turn_18 ?_
    refine A_iload_n C (pc := 21) 1 rfl dX7_turn_21 ?_
    obtain ⟨c22, hf⟩ := chk_i hf
    refine A_iald C (pc := 22) (show IA 48 5 from ⟨rfl, rfl⟩) c22 dX7_turn_22 ?_
    refine A_icmp_ge C (pc := 23) 96 (by decide) dX7_turn_23 hf (fun _ hf => ?_) (fun _ hf => ?_)
    · refine A_aload_n C (pc := 96) 0 rfl dX7_turn_96 ?_
      refine A_iload_n C (pc := 97) 1 rfl dX7_turn_97 ?_
      obtain ⟨z98, h98, hf⟩ := bd_i hf
      refine A_callV1 C (pc := 98) (A := [.int x1]) (rest := []) k_X7_59 ky_X7_pairsOf kv_X7_pairsOf (m_X7_pairsOf l B D Y o  h98) (by decide) rfl rfl rfl rfl (Nat.le_of_ble_eq_true rfl) ⟨rfl, rfl, Nat.le_of_ble_eq_true rfl, Nat.le_of_ble_eq_true rfl⟩ ⟨Nat.zero_le _, Nat.zero_le _⟩ dX7_turn_98 ?_
      exact R_iM C (pc := 101) hr hk rfl dX7_turn_101 hf
    · refine A_iload_n C (pc := 26) 2 rfl dX7_turn_26 ?_
      refine A_iconst C (pc := 27) ic_1 dX7_turn_27 ?_
      refine A_iadd C (pc := 28) dX7_turn_28 ?_
      obtain ⟨v29, e29, hf⟩ := bd_i hf
      refine A_nmI e29 ?_
      refine A_istore_n C (pc := 29) [(0, .ref (B + 47)), (1, .int x1), (2, .int x2), (3, .int v29)] rfl (by decide) [1, 2, 3, 0] rfl dX7_turn_29 ?_
      exact w_X7_turn_L30 C hr hk hk16 FU _ _  hf
set_option maxRecDepth 100000 in
theorem m_X7_turn (l : Launch) (B : Nat) (D : va_G) (Y : Nat → ClassId) (o : Ou) {M : Mem} {x1 : Int32} {r : Int32 × Mem}  (hf : f_X7_turn M x1 = some r) : MW l yX7_turn cX7_turn 5 (some .int) rm_X7_turn B D Y o [.ref (B + 47), .int x1] M r.2 (some (.int r.1)) := by
  refine ofAt (L0 := [(0, .ref (B + 47)), (1, .int x1)]) (by decide +kernel) (Nat.le_of_ble_eq_true rfl) rfl (fun p e s m args below meth c C hr hk => ?_)
  dsimp only [f_X7_turn] at hf
  refine A_aload_n C (pc := 0) 0 rfl dX7_turn_0 ?_
  refine A_iload_n C (pc := 1) 1 rfl dX7_turn_1 ?_
  obtain ⟨z2, h2, hf⟩ := bd_i hf
  refine A_callS1 C (pc := 2) (A := [.int x1]) (rest := [.ref (B + 47)]) k_X7_43 ky_X7_isOrder ks_X7_isOrder (m_X7_isOrder l B D Y o  h2) rfl rfl (Nat.le_of_ble_eq_true rfl) ⟨rfl, rfl, Nat.le_of_ble_eq_true rfl, Nat.le_of_ble_eq_true rfl⟩ ⟨Nat.zero_le _, Nat.zero_le _⟩ dX7_turn_2 ?_
  refine A_iconst C (pc := 5) ic_1 dX7_turn_5 ?_
  obtain ⟨z6, h6, hf⟩ := bd_i hf
  refine A_callV1 C (pc := 6) (A := [.int z2, .int 1]) (rest := []) k_X7_51 ky_X7_lets kv_X7_lets (m_X7_lets l B D Y o  h6) (by decide) rfl rfl rfl rfl (Nat.le_of_ble_eq_true rfl) ⟨rfl, rfl, Nat.le_of_ble_eq_true rfl, Nat.le_of_ble_eq_true rfl⟩ ⟨Nat.zero_le _, Nat.zero_le _⟩ dX7_turn_6 ?_
  refine A_if_ne C (pc := 9) 14 (by decide) dX7_turn_9 hf (fun _ hf => ?_) (fun _ hf => ?_)
  · refine A_iconst C (pc := 14) ic_0 dX7_turn_14 ?_
    refine A_istore_n C (pc := 15) [(0, .ref (B + 47)), (1, .int x1), (2, .int 0)] rfl (by decide) [1, 2, 0] rfl dX7_turn_15 ?_
    exact w_X7_turn_L16 C hr hk FU _ _  hf
  · refine A_iconst C (pc := 12) ic_0 dX7_turn_12 ?_
    exact R_iM C (pc := 13) hr hk rfl dX7_turn_13 hf
set_option maxRecDepth 100000 in
theorem w_X7_copy_L20 {M : Mem} {x1 : Int32} {x2 : Int32} {y0 : Int32} {r : Int32 × Mem} (C : Cx p s m args c cX7_copy 3 RX7 B D Y) (hr : meth.sig.returnType = (some .int)) (hk : meth.locks = false)  (hf : f_X7_copy_L20 M x1 x2 y0 = some r) : At p l e rm_X7_copy s m args below meth c 3 0 0 (QQ below args s B D Y r.2 o (some (.int r.1))) B D Y o 20 M [(0, .ref (B + 47)), (1, .int x1), (2, .int x2)] [.int y0, .ref (B + 47)] := by
  dsimp only [f_X7_copy_L20] at hf
  refine A_iconst C (pc := 20) ic_1 dX7_copy_20 ?_
  obtain ⟨z21, h21, hf⟩ := bd_i hf
  refine A_callV1 C (pc := 21) (A := [.int y0, .int 1]) (rest := []) k_X7_51 ky_X7_lets kv_X7_lets (m_X7_lets l B D Y o  h21) (by decide) rfl rfl rfl rfl (Nat.le_of_ble_eq_true rfl) ⟨rfl, rfl, Nat.le_of_ble_eq_true rfl, Nat.le_of_ble_eq_true rfl⟩ ⟨Nat.zero_le _, Nat.zero_le _⟩ dX7_copy_21 ?_
  refine A_if_ne C (pc := 24) 29 (by decide) dX7_copy_24 hf (fun _ hf => ?_) (fun _ hf => ?_)
  · refine A_aload_n C (pc := 29) 0 rfl dX7_copy_29 ?_
    refine A_iload_n C (pc := 30) 2 rfl dX7_copy_30 ?_
    refine A_iload_n C (pc := 31) 1 rfl dX7_copy_31 ?_
    obtain ⟨z32, h32, hf⟩ := bd_i hf
    refine A_callV0 C (pc := 32) (A := [.int x2, .int x1]) (rest := []) k_X7_63 ky_X7_becomes kv_X7_becomes (m_X7_becomes l B D Y o  h32) (by decide) rfl rfl rfl rfl (Nat.le_of_ble_eq_true rfl) ⟨rfl, rfl, Nat.le_of_ble_eq_true rfl, Nat.le_of_ble_eq_true rfl⟩ ⟨Nat.zero_le _, Nat.zero_le _⟩ dX7_copy_32 ?_
    refine A_aload_n C (pc := 35) 0 rfl dX7_copy_35 ?_
    refine A_g7_0 C (pc := 36) kf_X7_9 dX7_copy_36 ?_
    refine A_iload_n C (pc := 39) 2 rfl dX7_copy_39 ?_
    obtain ⟨c40, hf⟩ := chk_i hf
    refine A_iald C (pc := 40) (show IA 48 5 from ⟨rfl, rfl⟩) c40 dX7_copy_40 ?_
    exact R_iM C (pc := 41) hr hk rfl dX7_copy_41 hf
  · refine A_iconst C (pc := 27) ic_0 dX7_copy_27 ?_
    exact R_iM C (pc := 28) hr hk rfl dX7_copy_28 hf
set_option maxRecDepth 100000 in
theorem w_X7_copy_L19 {M : Mem} {x1 : Int32} {x2 : Int32} {r : Int32 × Mem} (C : Cx p s m args c cX7_copy 3 RX7 B D Y) (hr : meth.sig.returnType = (some .int)) (hk : meth.locks = false)  (hf : f_X7_copy_L19 M x1 x2 = some r) : At p l e rm_X7_copy s m args below meth c 3 0 0 (QQ below args s B D Y r.2 o (some (.int r.1))) B D Y o 19 M [(0, .ref (B + 47)), (1, .int x1), (2, .int x2)] [.ref (B + 47)] := by
  dsimp only [f_X7_copy_L19] at hf
  refine A_iconst C (pc := 19) ic_0 dX7_copy_19 ?_
  exact w_X7_copy_L20 C hr hk hf
set_option maxRecDepth 100000 in
theorem m_X7_copy (l : Launch) (B : Nat) (D : va_G) (Y : Nat → ClassId) (o : Ou) {M : Mem} {x1 : Int32} {x2 : Int32} {r : Int32 × Mem}  (hf : f_X7_copy M x1 x2 = some r) : MW l yX7_copy cX7_copy 3 (some .int) rm_X7_copy B D Y o [.ref (B + 47), .int x1, .int x2] M r.2 (some (.int r.1)) := by
  refine ofAt (L0 := [(0, .ref (B + 47)), (1, .int x1), (2, .int x2)]) (by decide +kernel) (Nat.le_of_ble_eq_true rfl) rfl (fun p e s m args below meth c C hr hk => ?_)
  dsimp only [f_X7_copy] at hf
  refine A_aload_n C (pc := 0) 0 rfl dX7_copy_0 ?_
  refine A_iload_n C (pc := 1) 1 rfl dX7_copy_1 ?_
  obtain ⟨z2, h2, hf⟩ := bd_i hf
  refine A_callS1 C (pc := 2) (A := [.int x1]) (rest := [.ref (B + 47)]) k_X7_43 ky_X7_isOrder ks_X7_isOrder (m_X7_isOrder l B D Y o  h2) rfl rfl (Nat.le_of_ble_eq_true rfl) ⟨rfl, rfl, Nat.le_of_ble_eq_true rfl, Nat.le_of_ble_eq_true rfl⟩ ⟨Nat.zero_le _, Nat.zero_le _⟩ dX7_copy_2 ?_
  refine A_if_eq C (pc := 5) 19 (by decide) dX7_copy_5 hf (fun _ hf => ?_) (fun _ hf => ?_)
  · exact w_X7_copy_L19 C hr hk hf
  · refine A_iload_n C (pc := 8) 2 rfl dX7_copy_8 ?_
    obtain ⟨z9, h9, hf⟩ := bd_i hf
    refine A_callS1 C (pc := 9) (A := [.int x2]) (rest := [.ref (B + 47)]) k_X7_43 ky_X7_isOrder ks_X7_isOrder (m_X7_isOrder l B D Y o  h9) rfl rfl (Nat.le_of_ble_eq_true rfl) ⟨rfl, rfl, Nat.le_of_ble_eq_true rfl, Nat.le_of_ble_eq_true rfl⟩ ⟨Nat.zero_le _, Nat.zero_le _⟩ dX7_copy_9 ?_
    refine A_if_eq C (pc := 12) 19 (by decide) dX7_copy_12 hf (fun _ hf => ?_) (fun _ hf => ?_)
    · exact w_X7_copy_L19 C hr hk hf
    · refine A_iconst C (pc := 15) ic_1 dX7_copy_15 ?_
      refine A_goto C (pc := 16) 20 (by decide) dX7_copy_16 ?_
      exact w_X7_copy_L20 C hr hk hf
set_option maxRecDepth 100000 in
theorem w_X7_joins_L124 {M : Mem} {x1 : Int32} {x2 : Int32} {x3 : Int32} {x4 : Int32} {x5 : Int32} {x6 : Int32} {x7 : Int32} {y0 : Int32} {r : Mem} (C : Cx p s m args c cX7_joins 9 RX7 B D Y) (hr : meth.sig.returnType = none) (hk : meth.locks = false)  {k29 : (Int32 × Mem) → Option Mem} (hk29 : ∀ (x6 : Int32) (M : Mem), k29 (x6, M) = some r → At p l e rm_X7_joins s m args below meth c 9 0 0 (QQ below args s B D Y r o none) B D Y o 29 M [(0, .ref (B + 47)), (1, .int x1), (2, .int x2), (3, .int x3), (4, .int x4), (5, .int x5), (6, .int x6)] []) {k82 : (Int32 × Mem) → Option Mem} (hk82 : ∀ (x7 : Int32) (M : Mem), k82 (x7, M) = some r → At p l e rm_X7_joins s m args below meth c 9 0 0 (QQ below args s B D Y r o none) B D Y o 82 M [(0, .ref (B + 47)), (1, .int x1), (2, .int x2), (3, .int x3), (4, .int x4), (5, .int x5), (6, .int x6), (7, .int x7)] []) (hf : f_X7_joins_L124 M x1 x2 x3 x4 x5 x6 x7 y0 k29 k82 = some r) : At p l e rm_X7_joins s m args below meth c 9 0 0 (QQ below args s B D Y r o none) B D Y o 124 M [(0, .ref (B + 47)), (1, .int x1), (2, .int x2), (3, .int x3), (4, .int x4), (5, .int x5), (6, .int x6), (7, .int x7)] [.int y0] := by
  dsimp only [f_X7_joins_L124] at hf
  refine A_istore C (pc := 124) [(0, .ref (B + 47)), (1, .int x1), (2, .int x2), (3, .int x3), (4, .int x4), (5, .int x5), (6, .int x6), (7, .int x7), (8, .int y0)] (by decide) [1, 2, 3, 4, 5, 6, 7, 8, 0] rfl dX7_joins_124 ?_
  refine A_aload_n C (pc := 126) 0 rfl dX7_joins_126 ?_
  refine A_g7_2 C (pc := 127) kf_X7_20 dX7_joins_127 ?_
  refine A_iconst C (pc := 130) ic_4 dX7_joins_130 ?_
  obtain ⟨c131, hf⟩ := chk_i hf
  refine A_aB C (pc := 131) c131 dX7_joins_131 ?_
  refine A_iload C (pc := 132) 6 rfl dX7_joins_132 ?_
  obtain ⟨c134, hf⟩ := chk_i hf
  refine A_aR C (pc := 134) (kBel (inb_lt c131)) c134 dX7_joins_134 ?_
  refine A_iload C (pc := 135) 7 rfl dX7_joins_135 ?_
  refine A_iload C (pc := 137) 8 rfl dX7_joins_137 ?_
  refine A_if_eq C (pc := 139) 185 (by decide) dX7_joins_139 hf (fun _ hf => ?_) (fun _ hf => ?_)
  · refine A_iload_n C (pc := 185) 3 rfl dX7_joins_185 ?_
    refine A_if_eq C (pc := 186) 200 (by decide) dX7_joins_186 hf (fun _ hf => ?_) (fun _ hf => ?_)
    · refine A_iconst C (pc := 200) ic_0 dX7_joins_200 ?_
      obtain ⟨c201, hf⟩ := chk_i hf
      obtain ⟨b201, hf⟩ := chk_i hf
      obtain ⟨M201, e201, hf⟩ := bd_i hf
      refine A_zast C (pc := 201) (kRow (kBel (inb_lt c131)) (inb_lt c134)) c201 b201 dX7_joins_201 ?_
      refine A_nmM e201 ?_
      refine A_iinc C (pc := 202) (k0 := 7) [(0, .ref (B + 47)), (1, .int x1), (2, .int x2), (3, .int x3), (4, .int x4), (5, .int x5), (6, .int x6), (7, .int (x7 + 1))] rfl ic_1 (by decide) [1, 2, 3, 4, 5, 6, 7, 0] rfl dX7_joins_202 ?_
      refine A_goto C (pc := 205) 82 (by decide) dX7_joins_205 ?_
      exact hk82 _ _ hf
    · refine A_iload C (pc := 189) 6 rfl dX7_joins_189 ?_
      refine A_iload C (pc := 191) 4 rfl dX7_joins_191 ?_
      refine A_icmp_ge C (pc := 193) 200 (by decide) dX7_joins_193 hf (fun _ hf => ?_) (fun _ hf => ?_)
      · refine A_iconst C (pc := 200) ic_0 dX7_joins_200 ?_
        obtain ⟨c201, hf⟩ := chk_i hf
        obtain ⟨b201, hf⟩ := chk_i hf
        obtain ⟨M201, e201, hf⟩ := bd_i hf
        refine A_zast C (pc := 201) (kRow (kBel (inb_lt c131)) (inb_lt c134)) c201 b201 dX7_joins_201 ?_
        refine A_nmM e201 ?_
        refine A_iinc C (pc := 202) (k0 := 7) [(0, .ref (B + 47)), (1, .int x1), (2, .int x2), (3, .int x3), (4, .int x4), (5, .int x5), (6, .int x6), (7, .int (x7 + 1))] rfl ic_1 (by decide) [1, 2, 3, 4, 5, 6, 7, 0] rfl dX7_joins_202 ?_
        refine A_goto C (pc := 205) 82 (by decide) dX7_joins_205 ?_
        exact hk82 _ _ hf
      · refine A_iconst C (pc := 196) ic_1 dX7_joins_196 ?_
        refine A_goto C (pc := 197) 201 (by decide) dX7_joins_197 ?_
        obtain ⟨c201, hf⟩ := chk_i hf
        obtain ⟨b201, hf⟩ := chk_i hf
        obtain ⟨M201, e201, hf⟩ := bd_i hf
        refine A_zast C (pc := 201) (kRow (kBel (inb_lt c131)) (inb_lt c134)) c201 b201 dX7_joins_201 ?_
        refine A_nmM e201 ?_
        refine A_iinc C (pc := 202) (k0 := 7) [(0, .ref (B + 47)), (1, .int x1), (2, .int x2), (3, .int x3), (4, .int x4), (5, .int x5), (6, .int x6), (7, .int (x7 + 1))] rfl ic_1 (by decide) [1, 2, 3, 4, 5, 6, 7, 0] rfl dX7_joins_202 ?_
        refine A_goto C (pc := 205) 82 (by decide) dX7_joins_205 ?_
        exact hk82 _ _ hf
  · refine A_iload C (pc := 142) 6 rfl dX7_joins_142 ?_
    refine A_iload C (pc := 144) 4 rfl dX7_joins_144 ?_
    refine A_icmp_ge C (pc := 146) 164 (by decide) dX7_joins_146 hf (fun _ hf => ?_) (fun _ hf => ?_)
    · refine A_aload_n C (pc := 164) 0 rfl dX7_joins_164 ?_
      refine A_g7_2 C (pc := 165) kf_X7_20 dX7_joins_165 ?_
      refine A_iload_n C (pc := 168) 2 rfl dX7_joins_168 ?_
      obtain ⟨c169, hf⟩ := chk_i hf
      refine A_aB C (pc := 169) c169 dX7_joins_169 ?_
      refine A_iload C (pc := 170) 6 rfl dX7_joins_170 ?_
      refine A_iload C (pc := 172) 4 rfl dX7_joins_172 ?_
      refine A_isub C (pc := 174) dX7_joins_174 ?_
      obtain ⟨c175, hf⟩ := chk_i hf
      refine A_aR C (pc := 175) (kBel (inb_lt c169)) c175 dX7_joins_175 ?_
      refine A_iload C (pc := 176) 7 rfl dX7_joins_176 ?_
      refine A_iload C (pc := 178) 4 rfl dX7_joins_178 ?_
      refine A_isub C (pc := 180) dX7_joins_180 ?_
      obtain ⟨c181, hf⟩ := chk_i hf
      refine A_zald C (pc := 181) (kRow (kBel (inb_lt c169)) (inb_lt c175)) c181 dX7_joins_181 ?_
      refine A_goto C (pc := 182) 201 (by decide) dX7_joins_182 ?_
      obtain ⟨c201, hf⟩ := chk_i hf
      obtain ⟨b201, hf⟩ := chk_i hf
      obtain ⟨M201, e201, hf⟩ := bd_i hf
      refine A_zast C (pc := 201) (kRow (kBel (inb_lt c131)) (inb_lt c134)) c201 b201 dX7_joins_201 ?_
      refine A_nmM e201 ?_
      refine A_iinc C (pc := 202) (k0 := 7) [(0, .ref (B + 47)), (1, .int x1), (2, .int x2), (3, .int x3), (4, .int x4), (5, .int x5), (6, .int x6), (7, .int (x7 + 1))] rfl ic_1 (by decide) [1, 2, 3, 4, 5, 6, 7, 0] rfl dX7_joins_202 ?_
      refine A_goto C (pc := 205) 82 (by decide) dX7_joins_205 ?_
      exact hk82 _ _ hf
    · refine A_aload_n C (pc := 149) 0 rfl dX7_joins_149 ?_
      refine A_g7_2 C (pc := 150) kf_X7_20 dX7_joins_150 ?_
      refine A_iload_n C (pc := 153) 1 rfl dX7_joins_153 ?_
      obtain ⟨c154, hf⟩ := chk_i hf
      refine A_aB C (pc := 154) c154 dX7_joins_154 ?_
      refine A_iload C (pc := 155) 6 rfl dX7_joins_155 ?_
      obtain ⟨c157, hf⟩ := chk_i hf
      refine A_aR C (pc := 157) (kBel (inb_lt c154)) c157 dX7_joins_157 ?_
      refine A_iload C (pc := 158) 7 rfl dX7_joins_158 ?_
      obtain ⟨c160, hf⟩ := chk_i hf
      refine A_zald C (pc := 160) (kRow (kBel (inb_lt c154)) (inb_lt c157)) c160 dX7_joins_160 ?_
      refine A_goto C (pc := 161) 201 (by decide) dX7_joins_161 ?_
      obtain ⟨c201, hf⟩ := chk_i hf
      obtain ⟨b201, hf⟩ := chk_i hf
      obtain ⟨M201, e201, hf⟩ := bd_i hf
      refine A_zast C (pc := 201) (kRow (kBel (inb_lt c131)) (inb_lt c134)) c201 b201 dX7_joins_201 ?_
      refine A_nmM e201 ?_
      refine A_iinc C (pc := 202) (k0 := 7) [(0, .ref (B + 47)), (1, .int x1), (2, .int x2), (3, .int x3), (4, .int x4), (5, .int x5), (6, .int x6), (7, .int (x7 + 1))] rfl ic_1 (by decide) [1, 2, 3, 4, 5, 6, 7, 0] rfl dX7_joins_202 ?_
      refine A_goto C (pc := 205) 82 (by decide) dX7_joins_205 ?_
      exact hk82 _ _ hf
set_option maxRecDepth 100000 in
theorem w_X7_joins_L116 {M : Mem} {x1 : Int32} {x2 : Int32} {x3 : Int32} {x4 : Int32} {x5 : Int32} {x6 : Int32} {x7 : Int32} {y0 : Int32} {y1 : Int32} {r : Mem} (C : Cx p s m args c cX7_joins 9 RX7 B D Y) (hr : meth.sig.returnType = none) (hk : meth.locks = false)  {k29 : (Int32 × Mem) → Option Mem} (hk29 : ∀ (x6 : Int32) (M : Mem), k29 (x6, M) = some r → At p l e rm_X7_joins s m args below meth c 9 0 0 (QQ below args s B D Y r o none) B D Y o 29 M [(0, .ref (B + 47)), (1, .int x1), (2, .int x2), (3, .int x3), (4, .int x4), (5, .int x5), (6, .int x6)] []) {k82 : (Int32 × Mem) → Option Mem} (hk82 : ∀ (x7 : Int32) (M : Mem), k82 (x7, M) = some r → At p l e rm_X7_joins s m args below meth c 9 0 0 (QQ below args s B D Y r o none) B D Y o 82 M [(0, .ref (B + 47)), (1, .int x1), (2, .int x2), (3, .int x3), (4, .int x4), (5, .int x5), (6, .int x6), (7, .int x7)] []) (hf : f_X7_joins_L116 M x1 x2 x3 x4 x5 x6 x7 y0 y1 k29 k82 = some r) : At p l e rm_X7_joins s m args below meth c 9 0 0 (QQ below args s B D Y r o none) B D Y o 116 M [(0, .ref (B + 47)), (1, .int x1), (2, .int x2), (3, .int x3), (4, .int x4), (5, .int x5), (6, .int x6), (7, .int x7)] [.int y0, .int y1] := by
  dsimp only [f_X7_joins_L116] at hf
  refine A_icmp_ne C (pc := 116) 123 (by decide) dX7_joins_116 hf (fun _ hf => ?_) (fun _ hf => ?_)
  · refine A_iconst C (pc := 123) ic_0 dX7_joins_123 ?_
    exact w_X7_joins_L124 C hr hk hk29 hk82 hf
  · refine A_iconst C (pc := 119) ic_1 dX7_joins_119 ?_
    refine A_goto C (pc := 120) 124 (by decide) dX7_joins_120 ?_
    exact w_X7_joins_L124 C hr hk hk29 hk82 hf
set_option maxRecDepth 100000 in
theorem w_X7_joins_L104 {M : Mem} {x1 : Int32} {x2 : Int32} {x3 : Int32} {x4 : Int32} {x5 : Int32} {x6 : Int32} {x7 : Int32} {y0 : Int32} {r : Mem} (C : Cx p s m args c cX7_joins 9 RX7 B D Y) (hr : meth.sig.returnType = none) (hk : meth.locks = false)  {k29 : (Int32 × Mem) → Option Mem} (hk29 : ∀ (x6 : Int32) (M : Mem), k29 (x6, M) = some r → At p l e rm_X7_joins s m args below meth c 9 0 0 (QQ below args s B D Y r o none) B D Y o 29 M [(0, .ref (B + 47)), (1, .int x1), (2, .int x2), (3, .int x3), (4, .int x4), (5, .int x5), (6, .int x6)] []) {k82 : (Int32 × Mem) → Option Mem} (hk82 : ∀ (x7 : Int32) (M : Mem), k82 (x7, M) = some r → At p l e rm_X7_joins s m args below meth c 9 0 0 (QQ below args s B D Y r o none) B D Y o 82 M [(0, .ref (B + 47)), (1, .int x1), (2, .int x2), (3, .int x3), (4, .int x4), (5, .int x5), (6, .int x6), (7, .int x7)] []) (hf : f_X7_joins_L104 M x1 x2 x3 x4 x5 x6 x7 y0 k29 k82 = some r) : At p l e rm_X7_joins s m args below meth c 9 0 0 (QQ below args s B D Y r o none) B D Y o 104 M [(0, .ref (B + 47)), (1, .int x1), (2, .int x2), (3, .int x3), (4, .int x4), (5, .int x5), (6, .int x6), (7, .int x7)] [.int y0] := by
  dsimp only [f_X7_joins_L104] at hf
  refine A_iload C (pc := 104) 7 rfl dX7_joins_104 ?_
  refine A_iload C (pc := 106) 4 rfl dX7_joins_106 ?_
  refine A_icmp_ge C (pc := 108) 115 (by decide) dX7_joins_108 hf (fun _ hf => ?_) (fun _ hf => ?_)
  · refine A_iconst C (pc := 115) ic_0 dX7_joins_115 ?_
    exact w_X7_joins_L116 C hr hk hk29 hk82 hf
  · refine A_iconst C (pc := 111) ic_1 dX7_joins_111 ?_
    refine A_goto C (pc := 112) 116 (by decide) dX7_joins_112 ?_
    exact w_X7_joins_L116 C hr hk hk29 hk82 hf
set_option maxRecDepth 100000 in
theorem w_X7_joins_L82 {x1 : Int32} {x2 : Int32} {x3 : Int32} {x4 : Int32} {x5 : Int32} {x6 : Int32} {r : Mem} (C : Cx p s m args c cX7_joins 9 RX7 B D Y) (hr : meth.sig.returnType = none) (hk : meth.locks = false)  {k29 : (Int32 × Mem) → Option Mem} (hk29 : ∀ (x6 : Int32) (M : Mem), k29 (x6, M) = some r → At p l e rm_X7_joins s m args below meth c 9 0 0 (QQ below args s B D Y r o none) B D Y o 29 M [(0, .ref (B + 47)), (1, .int x1), (2, .int x2), (3, .int x3), (4, .int x4), (5, .int x5), (6, .int x6)] []) : ∀ (n : Nat) (x7 : Int32) (M : Mem), f_X7_joins_L82 x1 x2 x3 x4 x5 x6 k29 n (x7, M) = some r → At p l e rm_X7_joins s m args below meth c 9 0 0 (QQ below args s B D Y r o none) B D Y o 82 M [(0, .ref (B + 47)), (1, .int x1), (2, .int x2), (3, .int x3), (4, .int x4), (5, .int x5), (6, .int x6), (7, .int x7)] [] := by
  intro n
  induction n with
  | zero => intro x7 M hf; exact nomatch (show (none : Option Mem) = some r from hf)
  | succ n hk82 =>
    intro x7 M hf
    replace hf : g_X7_joins_L82 x1 x2 x3 x4 x5 x6 k29 (f_X7_joins_L82 x1 x2 x3 x4 x5 x6 k29 n) (x7, M) = some r := hf
    dsimp only [g_X7_joins_L82] at hf
    refine A_iload C (pc := 82) 7 rfl dX7_joins_82 ?_
    refine A_iload C (pc := 84) 4 rfl dX7_joins_84 ?_
    refine A_iload C (pc := 86) 5 rfl dX7_joins_86 ?_
    refine A_iadd C (pc := 88) dX7_joins_88 ?_
    refine A_icmp_ge C (pc := 89) 208 (by decide) dX7_joins_89 hf (fun _ hf => ?_) (fun _ hf => ?_)
    · refine A_iinc C (pc := 208) (k0 := 6) [(0, .ref (B + 47)), (1, .int x1), (2, .int x2), (3, .int x3), (4, .int x4), (5, .int x5), (6, .int (x6 + 1))] rfl ic_1 (by decide) [1, 2, 3, 4, 5, 6, 0] rfl dX7_joins_208 ?_
      refine A_goto C (pc := 211) 29 (by decide) dX7_joins_211 ?_
      exact hk29 _ _ hf
    · refine A_iload C (pc := 92) 6 rfl dX7_joins_92 ?_
      refine A_iload C (pc := 94) 4 rfl dX7_joins_94 ?_
      refine A_icmp_ge C (pc := 96) 103 (by decide) dX7_joins_96 hf (fun _ hf => ?_) (fun _ hf => ?_)
      · refine A_iconst C (pc := 103) ic_0 dX7_joins_103 ?_
        exact w_X7_joins_L104 C hr hk hk29 hk82 hf
      · refine A_iconst C (pc := 99) ic_1 dX7_joins_99 ?_
        refine A_goto C (pc := 100) 104 (by decide) dX7_joins_100 ?_
        exact w_X7_joins_L104 C hr hk hk29 hk82 hf
set_option maxRecDepth 100000 in
theorem w_X7_joins_L29 {x1 : Int32} {x2 : Int32} {x3 : Int32} {x4 : Int32} {x5 : Int32} {r : Mem} (C : Cx p s m args c cX7_joins 9 RX7 B D Y) (hr : meth.sig.returnType = none) (hk : meth.locks = false)  : ∀ (n : Nat) (x6 : Int32) (M : Mem), f_X7_joins_L29 x1 x2 x3 x4 x5 n (x6, M) = some r → At p l e rm_X7_joins s m args below meth c 9 0 0 (QQ below args s B D Y r o none) B D Y o 29 M [(0, .ref (B + 47)), (1, .int x1), (2, .int x2), (3, .int x3), (4, .int x4), (5, .int x5), (6, .int x6)] [] := by
  intro n
  induction n with
  | zero => intro x6 M hf; exact nomatch (show (none : Option Mem) = some r from hf)
  | succ n hk29 =>
    intro x6 M hf
    replace hf : g_X7_joins_L29 x1 x2 x3 x4 x5 (f_X7_joins_L29 x1 x2 x3 x4 x5 n) (x6, M) = some r := hf
    dsimp only [g_X7_joins_L29] at hf
    refine A_iload C (pc := 29) 6 rfl dX7_joins_29 ?_
    refine A_iload C (pc := 31) 4 rfl dX7_joins_31 ?_
    refine A_iload C (pc := 33) 5 rfl dX7_joins_33 ?_
    refine A_iadd C (pc := 35) dX7_joins_35 ?_
    refine A_icmp_ge C (pc := 36) 214 (by decide) dX7_joins_36 hf (fun _ hf => ?_) (fun _ hf => ?_)
    · exact R_vM C (pc := 214) hr hk dX7_joins_214 hf
    · refine A_aload_n C (pc := 39) 0 rfl dX7_joins_39 ?_
      refine A_g7_1 C (pc := 40) kf_X7_15 dX7_joins_40 ?_
      refine A_iconst C (pc := 43) ic_4 dX7_joins_43 ?_
      obtain ⟨c44, hf⟩ := chk_i hf
      refine A_aV C (pc := 44) c44 dX7_joins_44 ?_
      refine A_iload C (pc := 45) 6 rfl dX7_joins_45 ?_
      refine A_iload C (pc := 47) 6 rfl dX7_joins_47 ?_
      refine A_iload C (pc := 49) 4 rfl dX7_joins_49 ?_
      refine A_icmp_ge C (pc := 51) 66 (by decide) dX7_joins_51 hf (fun _ hf => ?_) (fun _ hf => ?_)
      · refine A_aload_n C (pc := 66) 0 rfl dX7_joins_66 ?_
        refine A_g7_1 C (pc := 67) kf_X7_15 dX7_joins_67 ?_
        refine A_iload_n C (pc := 70) 2 rfl dX7_joins_70 ?_
        obtain ⟨c71, hf⟩ := chk_i hf
        refine A_aV C (pc := 71) c71 dX7_joins_71 ?_
        refine A_iload C (pc := 72) 6 rfl dX7_joins_72 ?_
        refine A_iload C (pc := 74) 4 rfl dX7_joins_74 ?_
        refine A_isub C (pc := 76) dX7_joins_76 ?_
        obtain ⟨c77, hf⟩ := chk_i hf
        refine A_iald C (pc := 77) (iVal (inb_lt c71)) c77 dX7_joins_77 ?_
        obtain ⟨c78, hf⟩ := chk_i hf
        obtain ⟨M78, e78, hf⟩ := bd_i hf
        refine A_iast C (pc := 78) (iVal (inb_lt c44)) c78 dX7_joins_78 ?_
        refine A_nmM e78 ?_
        refine A_iconst C (pc := 79) ic_0 dX7_joins_79 ?_
        refine A_istore C (pc := 80) [(0, .ref (B + 47)), (1, .int x1), (2, .int x2), (3, .int x3), (4, .int x4), (5, .int x5), (6, .int x6), (7, .int 0)] (by decide) [1, 2, 3, 4, 5, 6, 7, 0] rfl dX7_joins_80 ?_
        exact w_X7_joins_L82 C hr hk hk29 FU _ _  hf
      · refine A_aload_n C (pc := 54) 0 rfl dX7_joins_54 ?_
        refine A_g7_1 C (pc := 55) kf_X7_15 dX7_joins_55 ?_
        refine A_iload_n C (pc := 58) 1 rfl dX7_joins_58 ?_
        obtain ⟨c59, hf⟩ := chk_i hf
        refine A_aV C (pc := 59) c59 dX7_joins_59 ?_
        refine A_iload C (pc := 60) 6 rfl dX7_joins_60 ?_
        obtain ⟨c62, hf⟩ := chk_i hf
        refine A_iald C (pc := 62) (iVal (inb_lt c59)) c62 dX7_joins_62 ?_
        refine A_goto C (pc := 63) 78 (by decide) dX7_joins_63 ?_
        obtain ⟨c78, hf⟩ := chk_i hf
        obtain ⟨M78, e78, hf⟩ := bd_i hf
        refine A_iast C (pc := 78) (iVal (inb_lt c44)) c78 dX7_joins_78 ?_
        refine A_nmM e78 ?_
        refine A_iconst C (pc := 79) ic_0 dX7_joins_79 ?_
        refine A_istore C (pc := 80) [(0, .ref (B + 47)), (1, .int x1), (2, .int x2), (3, .int x3), (4, .int x4), (5, .int x5), (6, .int x6), (7, .int 0)] (by decide) [1, 2, 3, 4, 5, 6, 7, 0] rfl dX7_joins_80 ?_
        exact w_X7_joins_L82 C hr hk hk29 FU _ _  hf
set_option maxRecDepth 100000 in
theorem m_X7_joins (l : Launch) (B : Nat) (D : va_G) (Y : Nat → ClassId) (o : Ou) {M : Mem} {x1 : Int32} {x2 : Int32} {x3 : Int32} {r : Mem}  (hf : f_X7_joins M x1 x2 x3 = some r) : MW l yX7_joins cX7_joins 9 none rm_X7_joins B D Y o [.ref (B + 47), .int x1, .int x2, .int x3] M r none := by
  refine ofAt (L0 := [(0, .ref (B + 47)), (1, .int x1), (2, .int x2), (3, .int x3)]) (by decide +kernel) (Nat.le_of_ble_eq_true rfl) rfl (fun p e s m args below meth c C hr hk => ?_)
  dsimp only [f_X7_joins] at hf
  refine A_aload_n C (pc := 0) 0 rfl dX7_joins_0 ?_
  refine A_g7_0 C (pc := 1) kf_X7_9 dX7_joins_1 ?_
  refine A_iload_n C (pc := 4) 1 rfl dX7_joins_4 ?_
  obtain ⟨c5, hf⟩ := chk_i hf
  refine A_iald C (pc := 5) (show IA 48 5 from ⟨rfl, rfl⟩) c5 dX7_joins_5 ?_
  obtain ⟨v6, e6, hf⟩ := bd_i hf
  refine A_nmI e6 ?_
  refine A_istore C (pc := 6) [(0, .ref (B + 47)), (1, .int x1), (2, .int x2), (3, .int x3), (4, .int v6)] (by decide) [1, 2, 3, 4, 0] rfl dX7_joins_6 ?_
  refine A_aload_n C (pc := 8) 0 rfl dX7_joins_8 ?_
  refine A_g7_0 C (pc := 9) kf_X7_9 dX7_joins_9 ?_
  refine A_iload_n C (pc := 12) 2 rfl dX7_joins_12 ?_
  obtain ⟨c13, hf⟩ := chk_i hf
  refine A_iald C (pc := 13) (show IA 48 5 from ⟨rfl, rfl⟩) c13 dX7_joins_13 ?_
  obtain ⟨v14, e14, hf⟩ := bd_i hf
  refine A_nmI e14 ?_
  refine A_istore C (pc := 14) [(0, .ref (B + 47)), (1, .int x1), (2, .int x2), (3, .int x3), (4, .int v6), (5, .int v14)] (by decide) [1, 2, 3, 4, 5, 0] rfl dX7_joins_14 ?_
  refine A_aload_n C (pc := 16) 0 rfl dX7_joins_16 ?_
  refine A_iconst C (pc := 17) ic_4 dX7_joins_17 ?_
  refine A_iload C (pc := 18) 4 rfl dX7_joins_18 ?_
  refine A_iload C (pc := 20) 5 rfl dX7_joins_20 ?_
  refine A_iadd C (pc := 22) dX7_joins_22 ?_
  obtain ⟨z23, h23, hf⟩ := bd_i hf
  refine A_callV0 C (pc := 23) (A := [.int 4, .int (v6 + v14)]) (rest := []) k_X7_55 ky_X7_empty kv_X7_empty (m_X7_empty l B D Y o  h23) (by decide) rfl rfl rfl rfl (Nat.le_of_ble_eq_true rfl) ⟨rfl, rfl, Nat.le_of_ble_eq_true rfl, Nat.le_of_ble_eq_true rfl⟩ ⟨Nat.zero_le _, Nat.zero_le _⟩ dX7_joins_23 ?_
  refine A_iconst C (pc := 26) ic_0 dX7_joins_26 ?_
  refine A_istore C (pc := 27) [(0, .ref (B + 47)), (1, .int x1), (2, .int x2), (3, .int x3), (4, .int v6), (5, .int v14), (6, .int 0)] (by decide) [1, 2, 3, 4, 5, 6, 0] rfl dX7_joins_27 ?_
  exact w_X7_joins_L29 C hr hk FU _ _  hf
set_option maxRecDepth 100000 in
theorem w_X7_canJoin_L27 {M : Mem} {x1 : Int32} {x2 : Int32} {y0 : Int32} {r : Int32 × Mem} (C : Cx p s m args c cX7_canJoin 4 RX7 B D Y) (hr : meth.sig.returnType = (some .boolean)) (hk : meth.locks = false)  (hf : f_X7_canJoin_L27 M x1 x2 y0 = some r) : At p l e rm_X7_canJoin s m args below meth c 4 0 0 (QQ below args s B D Y r.2 o (some (.int r.1))) B D Y o 27 M [(0, .ref (B + 47)), (1, .int x1), (2, .int x2)] [.int y0, .ref (B + 47)] := by
  dsimp only [f_X7_canJoin_L27] at hf
  refine A_iconst C (pc := 27) ic_1 dX7_canJoin_27 ?_
  obtain ⟨z28, h28, hf⟩ := bd_i hf
  refine A_callV1 C (pc := 28) (A := [.int y0, .int 1]) (rest := []) k_X7_51 ky_X7_lets kv_X7_lets (m_X7_lets l B D Y o  h28) (by decide) rfl rfl rfl rfl (Nat.le_of_ble_eq_true rfl) ⟨rfl, rfl, Nat.le_of_ble_eq_true rfl, Nat.le_of_ble_eq_true rfl⟩ ⟨Nat.zero_le _, Nat.zero_le _⟩ dX7_canJoin_28 ?_
  refine A_if_eq C (pc := 31) 69 (by decide) dX7_canJoin_31 hf (fun _ hf => ?_) (fun _ hf => ?_)
  · refine A_iconst C (pc := 69) ic_0 dX7_canJoin_69 ?_
    exact R_iM C (pc := 70) hr hk nz_0 dX7_canJoin_70 hf
  · refine A_aload_n C (pc := 34) 0 rfl dX7_canJoin_34 ?_
    refine A_aload_n C (pc := 35) 0 rfl dX7_canJoin_35 ?_
    refine A_g7_0 C (pc := 36) kf_X7_9 dX7_canJoin_36 ?_
    refine A_iload_n C (pc := 39) 1 rfl dX7_canJoin_39 ?_
    obtain ⟨c40, hf⟩ := chk_i hf
    refine A_iald C (pc := 40) (show IA 48 5 from ⟨rfl, rfl⟩) c40 dX7_canJoin_40 ?_
    refine A_aload_n C (pc := 41) 0 rfl dX7_canJoin_41 ?_
    refine A_g7_0 C (pc := 42) kf_X7_9 dX7_canJoin_42 ?_
    refine A_iload_n C (pc := 45) 2 rfl dX7_canJoin_45 ?_
    obtain ⟨c46, hf⟩ := chk_i hf
    refine A_iald C (pc := 46) (show IA 48 5 from ⟨rfl, rfl⟩) c46 dX7_canJoin_46 ?_
    refine A_iadd C (pc := 47) dX7_canJoin_47 ?_
    refine A_bipush C (pc := 48) bc_9 dX7_canJoin_48 ?_
    refine A_icmp_gt C (pc := 50) 57 (by decide) dX7_canJoin_50 hf (fun _ hf => ?_) (fun _ hf => ?_)
    · refine A_iconst C (pc := 57) ic_0 dX7_canJoin_57 ?_
      refine A_iconst C (pc := 58) ic_2 dX7_canJoin_58 ?_
      obtain ⟨z59, h59, hf⟩ := bd_i hf
      refine A_callV1 C (pc := 59) (A := [.int 0, .int 2]) (rest := []) k_X7_51 ky_X7_lets kv_X7_lets (m_X7_lets l B D Y o  h59) (by decide) rfl rfl rfl rfl (Nat.le_of_ble_eq_true rfl) ⟨rfl, rfl, Nat.le_of_ble_eq_true rfl, Nat.le_of_ble_eq_true rfl⟩ ⟨Nat.zero_le _, Nat.zero_le _⟩ dX7_canJoin_59 ?_
      refine A_if_eq C (pc := 62) 69 (by decide) dX7_canJoin_62 hf (fun _ hf => ?_) (fun _ hf => ?_)
      · refine A_iconst C (pc := 69) ic_0 dX7_canJoin_69 ?_
        exact R_iM C (pc := 70) hr hk nz_0 dX7_canJoin_70 hf
      · refine A_iconst C (pc := 65) ic_1 dX7_canJoin_65 ?_
        refine A_goto C (pc := 66) 70 (by decide) dX7_canJoin_66 ?_
        exact R_iM C (pc := 70) hr hk nz_1 dX7_canJoin_70 hf
    · refine A_iconst C (pc := 53) ic_1 dX7_canJoin_53 ?_
      refine A_goto C (pc := 54) 58 (by decide) dX7_canJoin_54 ?_
      refine A_iconst C (pc := 58) ic_2 dX7_canJoin_58 ?_
      obtain ⟨z59, h59, hf⟩ := bd_i hf
      refine A_callV1 C (pc := 59) (A := [.int 1, .int 2]) (rest := []) k_X7_51 ky_X7_lets kv_X7_lets (m_X7_lets l B D Y o  h59) (by decide) rfl rfl rfl rfl (Nat.le_of_ble_eq_true rfl) ⟨rfl, rfl, Nat.le_of_ble_eq_true rfl, Nat.le_of_ble_eq_true rfl⟩ ⟨Nat.zero_le _, Nat.zero_le _⟩ dX7_canJoin_59 ?_
      refine A_if_eq C (pc := 62) 69 (by decide) dX7_canJoin_62 hf (fun _ hf => ?_) (fun _ hf => ?_)
      · refine A_iconst C (pc := 69) ic_0 dX7_canJoin_69 ?_
        exact R_iM C (pc := 70) hr hk nz_0 dX7_canJoin_70 hf
      · refine A_iconst C (pc := 65) ic_1 dX7_canJoin_65 ?_
        refine A_goto C (pc := 66) 70 (by decide) dX7_canJoin_66 ?_
        exact R_iM C (pc := 70) hr hk nz_1 dX7_canJoin_70 hf
set_option maxRecDepth 100000 in
theorem w_X7_canJoin_L26 {M : Mem} {x1 : Int32} {x2 : Int32} {r : Int32 × Mem} (C : Cx p s m args c cX7_canJoin 4 RX7 B D Y) (hr : meth.sig.returnType = (some .boolean)) (hk : meth.locks = false)  (hf : f_X7_canJoin_L26 M x1 x2 = some r) : At p l e rm_X7_canJoin s m args below meth c 4 0 0 (QQ below args s B D Y r.2 o (some (.int r.1))) B D Y o 26 M [(0, .ref (B + 47)), (1, .int x1), (2, .int x2)] [.ref (B + 47)] := by
  dsimp only [f_X7_canJoin_L26] at hf
  refine A_iconst C (pc := 26) ic_0 dX7_canJoin_26 ?_
  exact w_X7_canJoin_L27 C hr hk hf
set_option maxRecDepth 100000 in
theorem m_X7_canJoin (l : Launch) (B : Nat) (D : va_G) (Y : Nat → ClassId) (o : Ou) {M : Mem} {x1 : Int32} {x2 : Int32} {x3 : Int32} {r : Int32 × Mem}  (hf : f_X7_canJoin M x1 x2 x3 = some r) : MW l yX7_canJoin cX7_canJoin 4 (some .boolean) rm_X7_canJoin B D Y o [.ref (B + 47), .int x1, .int x2, .int x3] M r.2 (some (.int r.1)) := by
  refine ofAt (L0 := [(0, .ref (B + 47)), (1, .int x1), (2, .int x2), (3, .int x3)]) (by decide +kernel) (Nat.le_of_ble_eq_true rfl) rfl (fun p e s m args below meth c C hr hk => ?_)
  dsimp only [f_X7_canJoin] at hf
  refine A_aload_n C (pc := 0) 0 rfl dX7_canJoin_0 ?_
  refine A_iload_n C (pc := 1) 1 rfl dX7_canJoin_1 ?_
  obtain ⟨z2, h2, hf⟩ := bd_i hf
  refine A_callS1 C (pc := 2) (A := [.int x1]) (rest := [.ref (B + 47)]) k_X7_43 ky_X7_isOrder ks_X7_isOrder (m_X7_isOrder l B D Y o  h2) rfl rfl (Nat.le_of_ble_eq_true rfl) ⟨rfl, rfl, Nat.le_of_ble_eq_true rfl, Nat.le_of_ble_eq_true rfl⟩ ⟨Nat.zero_le _, Nat.zero_le _⟩ dX7_canJoin_2 ?_
  refine A_if_eq C (pc := 5) 26 (by decide) dX7_canJoin_5 hf (fun _ hf => ?_) (fun _ hf => ?_)
  · refine A_sub [0, 1, 2] rfl ?_
    exact w_X7_canJoin_L26 C hr hk hf
  · refine A_iload_n C (pc := 8) 2 rfl dX7_canJoin_8 ?_
    obtain ⟨z9, h9, hf⟩ := bd_i hf
    refine A_callS1 C (pc := 9) (A := [.int x2]) (rest := [.ref (B + 47)]) k_X7_43 ky_X7_isOrder ks_X7_isOrder (m_X7_isOrder l B D Y o  h9) rfl rfl (Nat.le_of_ble_eq_true rfl) ⟨rfl, rfl, Nat.le_of_ble_eq_true rfl, Nat.le_of_ble_eq_true rfl⟩ ⟨Nat.zero_le _, Nat.zero_le _⟩ dX7_canJoin_9 ?_
    refine A_if_eq C (pc := 12) 26 (by decide) dX7_canJoin_12 hf (fun _ hf => ?_) (fun _ hf => ?_)
    · refine A_sub [0, 1, 2] rfl ?_
      exact w_X7_canJoin_L26 C hr hk hf
    · refine A_iload_n C (pc := 15) 3 rfl dX7_canJoin_15 ?_
      obtain ⟨z16, h16, hf⟩ := bd_i hf
      refine A_callS1 C (pc := 16) (A := [.int x3]) (rest := [.ref (B + 47)]) k_X7_43 ky_X7_isOrder ks_X7_isOrder (m_X7_isOrder l B D Y o  h16) rfl rfl (Nat.le_of_ble_eq_true rfl) ⟨rfl, rfl, Nat.le_of_ble_eq_true rfl, Nat.le_of_ble_eq_true rfl⟩ ⟨Nat.zero_le _, Nat.zero_le _⟩ dX7_canJoin_16 ?_
      refine A_if_eq C (pc := 19) 26 (by decide) dX7_canJoin_19 hf (fun _ hf => ?_) (fun _ hf => ?_)
      · refine A_sub [0, 1, 2] rfl ?_
        exact w_X7_canJoin_L26 C hr hk hf
      · refine A_iconst C (pc := 22) ic_1 dX7_canJoin_22 ?_
        refine A_goto C (pc := 23) 27 (by decide) dX7_canJoin_23 ?_
        refine A_sub [0, 1, 2] rfl ?_
        exact w_X7_canJoin_L27 C hr hk hf
set_option maxRecDepth 100000 in
theorem m_X7_beside (l : Launch) (B : Nat) (D : va_G) (Y : Nat → ClassId) (o : Ou) {M : Mem} {x1 : Int32} {x2 : Int32} {x3 : Int32} {r : Int32 × Mem}  (hf : f_X7_beside M x1 x2 x3 = some r) : MW l yX7_beside cX7_beside 4 (some .int) rm_X7_beside B D Y o [.ref (B + 47), .int x1, .int x2, .int x3] M r.2 (some (.int r.1)) := by
  refine ofAt (L0 := [(0, .ref (B + 47)), (1, .int x1), (2, .int x2), (3, .int x3)]) (by decide +kernel) (Nat.le_of_ble_eq_true rfl) rfl (fun p e s m args below meth c C hr hk => ?_)
  dsimp only [f_X7_beside] at hf
  refine A_aload_n C (pc := 0) 0 rfl dX7_beside_0 ?_
  refine A_iload_n C (pc := 1) 1 rfl dX7_beside_1 ?_
  refine A_iload_n C (pc := 2) 2 rfl dX7_beside_2 ?_
  refine A_iload_n C (pc := 3) 3 rfl dX7_beside_3 ?_
  obtain ⟨z4, h4, hf⟩ := bd_i hf
  refine A_callV1 C (pc := 4) (A := [.int x1, .int x2, .int x3]) (rest := []) k_X7_88 ky_X7_canJoin kv_X7_canJoin (m_X7_canJoin l B D Y o  h4) (by decide) rfl rfl rfl rfl (Nat.le_of_ble_eq_true rfl) ⟨rfl, rfl, Nat.le_of_ble_eq_true rfl, Nat.le_of_ble_eq_true rfl⟩ ⟨Nat.zero_le _, Nat.zero_le _⟩ dX7_beside_4 ?_
  refine A_if_ne C (pc := 7) 12 (by decide) dX7_beside_7 hf (fun _ hf => ?_) (fun _ hf => ?_)
  · refine A_aload_n C (pc := 12) 0 rfl dX7_beside_12 ?_
    refine A_iload_n C (pc := 13) 1 rfl dX7_beside_13 ?_
    refine A_iload_n C (pc := 14) 2 rfl dX7_beside_14 ?_
    refine A_iconst C (pc := 15) ic_0 dX7_beside_15 ?_
    obtain ⟨z16, h16, hf⟩ := bd_i hf
    refine A_callV0 C (pc := 16) (A := [.int x1, .int x2, .int 0]) (rest := []) k_X7_91 ky_X7_joins kv_X7_joins (m_X7_joins l B D Y o  h16) (by decide) rfl rfl rfl rfl (Nat.le_of_ble_eq_true rfl) ⟨rfl, rfl, Nat.le_of_ble_eq_true rfl, Nat.le_of_ble_eq_true rfl⟩ ⟨Nat.zero_le _, Nat.zero_le _⟩ dX7_beside_16 ?_
    refine A_aload_n C (pc := 19) 0 rfl dX7_beside_19 ?_
    refine A_iload_n C (pc := 20) 3 rfl dX7_beside_20 ?_
    refine A_iconst C (pc := 21) ic_4 dX7_beside_21 ?_
    obtain ⟨z22, h22, hf⟩ := bd_i hf
    refine A_callV0 C (pc := 22) (A := [.int x3, .int 4]) (rest := []) k_X7_63 ky_X7_becomes kv_X7_becomes (m_X7_becomes l B D Y o  h22) (by decide) rfl rfl rfl rfl (Nat.le_of_ble_eq_true rfl) ⟨rfl, rfl, Nat.le_of_ble_eq_true rfl, Nat.le_of_ble_eq_true rfl⟩ ⟨Nat.zero_le _, Nat.zero_le _⟩ dX7_beside_22 ?_
    refine A_aload_n C (pc := 25) 0 rfl dX7_beside_25 ?_
    refine A_g7_0 C (pc := 26) kf_X7_9 dX7_beside_26 ?_
    refine A_iload_n C (pc := 29) 3 rfl dX7_beside_29 ?_
    obtain ⟨c30, hf⟩ := chk_i hf
    refine A_iald C (pc := 30) (show IA 48 5 from ⟨rfl, rfl⟩) c30 dX7_beside_30 ?_
    exact R_iM C (pc := 31) hr hk rfl dX7_beside_31 hf
  · refine A_iconst C (pc := 10) ic_0 dX7_beside_10 ?_
    exact R_iM C (pc := 11) hr hk rfl dX7_beside_11 hf
set_option maxRecDepth 100000 in
theorem m_X7_above (l : Launch) (B : Nat) (D : va_G) (Y : Nat → ClassId) (o : Ou) {M : Mem} {x1 : Int32} {x2 : Int32} {x3 : Int32} {r : Int32 × Mem}  (hf : f_X7_above M x1 x2 x3 = some r) : MW l yX7_above cX7_above 4 (some .int) rm_X7_above B D Y o [.ref (B + 47), .int x1, .int x2, .int x3] M r.2 (some (.int r.1)) := by
  refine ofAt (L0 := [(0, .ref (B + 47)), (1, .int x1), (2, .int x2), (3, .int x3)]) (by decide +kernel) (Nat.le_of_ble_eq_true rfl) rfl (fun p e s m args below meth c C hr hk => ?_)
  dsimp only [f_X7_above] at hf
  refine A_aload_n C (pc := 0) 0 rfl dX7_above_0 ?_
  refine A_iload_n C (pc := 1) 1 rfl dX7_above_1 ?_
  refine A_iload_n C (pc := 2) 2 rfl dX7_above_2 ?_
  refine A_iload_n C (pc := 3) 3 rfl dX7_above_3 ?_
  obtain ⟨z4, h4, hf⟩ := bd_i hf
  refine A_callV1 C (pc := 4) (A := [.int x1, .int x2, .int x3]) (rest := []) k_X7_88 ky_X7_canJoin kv_X7_canJoin (m_X7_canJoin l B D Y o  h4) (by decide) rfl rfl rfl rfl (Nat.le_of_ble_eq_true rfl) ⟨rfl, rfl, Nat.le_of_ble_eq_true rfl, Nat.le_of_ble_eq_true rfl⟩ ⟨Nat.zero_le _, Nat.zero_le _⟩ dX7_above_4 ?_
  refine A_if_ne C (pc := 7) 12 (by decide) dX7_above_7 hf (fun _ hf => ?_) (fun _ hf => ?_)
  · refine A_aload_n C (pc := 12) 0 rfl dX7_above_12 ?_
    refine A_iload_n C (pc := 13) 1 rfl dX7_above_13 ?_
    refine A_iload_n C (pc := 14) 2 rfl dX7_above_14 ?_
    refine A_iconst C (pc := 15) ic_1 dX7_above_15 ?_
    obtain ⟨z16, h16, hf⟩ := bd_i hf
    refine A_callV0 C (pc := 16) (A := [.int x1, .int x2, .int 1]) (rest := []) k_X7_91 ky_X7_joins kv_X7_joins (m_X7_joins l B D Y o  h16) (by decide) rfl rfl rfl rfl (Nat.le_of_ble_eq_true rfl) ⟨rfl, rfl, Nat.le_of_ble_eq_true rfl, Nat.le_of_ble_eq_true rfl⟩ ⟨Nat.zero_le _, Nat.zero_le _⟩ dX7_above_16 ?_
    refine A_aload_n C (pc := 19) 0 rfl dX7_above_19 ?_
    refine A_iload_n C (pc := 20) 3 rfl dX7_above_20 ?_
    refine A_iconst C (pc := 21) ic_4 dX7_above_21 ?_
    obtain ⟨z22, h22, hf⟩ := bd_i hf
    refine A_callV0 C (pc := 22) (A := [.int x3, .int 4]) (rest := []) k_X7_63 ky_X7_becomes kv_X7_becomes (m_X7_becomes l B D Y o  h22) (by decide) rfl rfl rfl rfl (Nat.le_of_ble_eq_true rfl) ⟨rfl, rfl, Nat.le_of_ble_eq_true rfl, Nat.le_of_ble_eq_true rfl⟩ ⟨Nat.zero_le _, Nat.zero_le _⟩ dX7_above_22 ?_
    refine A_aload_n C (pc := 25) 0 rfl dX7_above_25 ?_
    refine A_iload_n C (pc := 26) 3 rfl dX7_above_26 ?_
    obtain ⟨z27, h27, hf⟩ := bd_i hf
    refine A_callV1 C (pc := 27) (A := [.int x3]) (rest := []) k_X7_59 ky_X7_pairsOf kv_X7_pairsOf (m_X7_pairsOf l B D Y o  h27) (by decide) rfl rfl rfl rfl (Nat.le_of_ble_eq_true rfl) ⟨rfl, rfl, Nat.le_of_ble_eq_true rfl, Nat.le_of_ble_eq_true rfl⟩ ⟨Nat.zero_le _, Nat.zero_le _⟩ dX7_above_27 ?_
    exact R_iM C (pc := 30) hr hk rfl dX7_above_30 hf
  · refine A_iconst C (pc := 10) ic_0 dX7_above_10 ?_
    exact R_iM C (pc := 11) hr hk rfl dX7_above_11 hf
set_option maxRecDepth 100000 in
theorem w_X7_meet_L100 {x1 : Int32} {x2 : Int32} {x3 : Int32} {x4 : Int32} {r : Int32 × Mem} (C : Cx p s m args c cX7_meet 6 RX7 B D Y) (hr : meth.sig.returnType = (some .int)) (hk : meth.locks = false)  {k68 : (Int32 × Mem) → Option (Int32 × Mem)} (hk68 : ∀ (x4 : Int32) (M : Mem), k68 (x4, M) = some r → At p l e rm_X7_meet s m args below meth c 6 0 0 (QQ below args s B D Y r.2 o (some (.int r.1))) B D Y o 68 M [(0, .ref (B + 47)), (1, .int x1), (2, .int x2), (3, .int x3), (4, .int x4)] []) : ∀ (n : Nat) (x5 : Int32) (M : Mem), f_X7_meet_L100 x1 x2 x3 x4 k68 n (x5, M) = some r → At p l e rm_X7_meet s m args below meth c 6 0 0 (QQ below args s B D Y r.2 o (some (.int r.1))) B D Y o 100 M [(0, .ref (B + 47)), (1, .int x1), (2, .int x2), (3, .int x3), (4, .int x4), (5, .int x5)] [] := by
  intro n
  induction n with
  | zero => intro x5 M hf; exact nomatch (show (none : Option (Int32 × Mem)) = some r from hf)
  | succ n hk100 =>
    intro x5 M hf
    replace hf : g_X7_meet_L100 x1 x2 x3 x4 k68 (f_X7_meet_L100 x1 x2 x3 x4 k68 n) (x5, M) = some r := hf
    dsimp only [g_X7_meet_L100] at hf
    refine A_iload C (pc := 100) 5 rfl dX7_meet_100 ?_
    refine A_aload_n C (pc := 102) 0 rfl dX7_meet_102 ?_
    refine A_g7_0 C (pc := 103) kf_X7_9 dX7_meet_103 ?_
    refine A_iload_n C (pc := 106) 1 rfl dX7_meet_106 ?_
    obtain ⟨c107, hf⟩ := chk_i hf
    refine A_iald C (pc := 107) (show IA 48 5 from ⟨rfl, rfl⟩) c107 dX7_meet_107 ?_
    refine A_icmp_ge C (pc := 108) 164 (by decide) dX7_meet_108 hf (fun _ hf => ?_) (fun _ hf => ?_)
    · refine A_iinc C (pc := 164) (k0 := 4) [(0, .ref (B + 47)), (1, .int x1), (2, .int x2), (3, .int x3), (4, .int (x4 + 1))] rfl ic_1 (by decide) [1, 2, 3, 4, 0] rfl dX7_meet_164 ?_
      refine A_goto C (pc := 167) 68 (by decide) dX7_meet_167 ?_
      exact hk68 _ _ hf
    · refine A_aload_n C (pc := 111) 0 rfl dX7_meet_111 ?_
      refine A_g7_2 C (pc := 112) kf_X7_20 dX7_meet_112 ?_
      refine A_iconst C (pc := 115) ic_4 dX7_meet_115 ?_
      obtain ⟨c116, hf⟩ := chk_i hf
      refine A_aB C (pc := 116) c116 dX7_meet_116 ?_
      refine A_iload C (pc := 117) 4 rfl dX7_meet_117 ?_
      obtain ⟨c119, hf⟩ := chk_i hf
      refine A_aR C (pc := 119) (kBel (inb_lt c116)) c119 dX7_meet_119 ?_
      refine A_iload C (pc := 120) 5 rfl dX7_meet_120 ?_
      refine A_aload_n C (pc := 122) 0 rfl dX7_meet_122 ?_
      refine A_g7_2 C (pc := 123) kf_X7_20 dX7_meet_123 ?_
      refine A_iload_n C (pc := 126) 1 rfl dX7_meet_126 ?_
      obtain ⟨c127, hf⟩ := chk_i hf
      refine A_aB C (pc := 127) c127 dX7_meet_127 ?_
      refine A_iload C (pc := 128) 4 rfl dX7_meet_128 ?_
      obtain ⟨c130, hf⟩ := chk_i hf
      refine A_aR C (pc := 130) (kBel (inb_lt c127)) c130 dX7_meet_130 ?_
      refine A_iload C (pc := 131) 5 rfl dX7_meet_131 ?_
      obtain ⟨c133, hf⟩ := chk_i hf
      refine A_zald C (pc := 133) (kRow (kBel (inb_lt c127)) (inb_lt c130)) c133 dX7_meet_133 ?_
      refine A_if_eq C (pc := 134) 156 (by decide) dX7_meet_134 hf (fun _ hf => ?_) (fun _ hf => ?_)
      · refine A_iconst C (pc := 156) ic_0 dX7_meet_156 ?_
        obtain ⟨c157, hf⟩ := chk_i hf
        obtain ⟨b157, hf⟩ := chk_i hf
        obtain ⟨M157, e157, hf⟩ := bd_i hf
        refine A_zast C (pc := 157) (kRow (kBel (inb_lt c116)) (inb_lt c119)) c157 b157 dX7_meet_157 ?_
        refine A_nmM e157 ?_
        refine A_iinc C (pc := 158) (k0 := 5) [(0, .ref (B + 47)), (1, .int x1), (2, .int x2), (3, .int x3), (4, .int x4), (5, .int (x5 + 1))] rfl ic_1 (by decide) [1, 2, 3, 4, 5, 0] rfl dX7_meet_158 ?_
        refine A_goto C (pc := 161) 100 (by decide) dX7_meet_161 ?_
        exact hk100 _ _ hf
      · refine A_aload_n C (pc := 137) 0 rfl dX7_meet_137 ?_
        refine A_g7_2 C (pc := 138) kf_X7_20 dX7_meet_138 ?_
        refine A_iload_n C (pc := 141) 2 rfl dX7_meet_141 ?_
        obtain ⟨c142, hf⟩ := chk_i hf
        refine A_aB C (pc := 142) c142 dX7_meet_142 ?_
        refine A_iload C (pc := 143) 4 rfl dX7_meet_143 ?_
        obtain ⟨c145, hf⟩ := chk_i hf
        refine A_aR C (pc := 145) (kBel (inb_lt c142)) c145 dX7_meet_145 ?_
        refine A_iload C (pc := 146) 5 rfl dX7_meet_146 ?_
        obtain ⟨c148, hf⟩ := chk_i hf
        refine A_zald C (pc := 148) (kRow (kBel (inb_lt c142)) (inb_lt c145)) c148 dX7_meet_148 ?_
        refine A_if_eq C (pc := 149) 156 (by decide) dX7_meet_149 hf (fun _ hf => ?_) (fun _ hf => ?_)
        · refine A_iconst C (pc := 156) ic_0 dX7_meet_156 ?_
          obtain ⟨c157, hf⟩ := chk_i hf
          obtain ⟨b157, hf⟩ := chk_i hf
          obtain ⟨M157, e157, hf⟩ := bd_i hf
          refine A_zast C (pc := 157) (kRow (kBel (inb_lt c116)) (inb_lt c119)) c157 b157 dX7_meet_157 ?_
          refine A_nmM e157 ?_
          refine A_iinc C (pc := 158) (k0 := 5) [(0, .ref (B + 47)), (1, .int x1), (2, .int x2), (3, .int x3), (4, .int x4), (5, .int (x5 + 1))] rfl ic_1 (by decide) [1, 2, 3, 4, 5, 0] rfl dX7_meet_158 ?_
          refine A_goto C (pc := 161) 100 (by decide) dX7_meet_161 ?_
          exact hk100 _ _ hf
        · refine A_iconst C (pc := 152) ic_1 dX7_meet_152 ?_
          refine A_goto C (pc := 153) 157 (by decide) dX7_meet_153 ?_
          obtain ⟨c157, hf⟩ := chk_i hf
          obtain ⟨b157, hf⟩ := chk_i hf
          obtain ⟨M157, e157, hf⟩ := bd_i hf
          refine A_zast C (pc := 157) (kRow (kBel (inb_lt c116)) (inb_lt c119)) c157 b157 dX7_meet_157 ?_
          refine A_nmM e157 ?_
          refine A_iinc C (pc := 158) (k0 := 5) [(0, .ref (B + 47)), (1, .int x1), (2, .int x2), (3, .int x3), (4, .int x4), (5, .int (x5 + 1))] rfl ic_1 (by decide) [1, 2, 3, 4, 5, 0] rfl dX7_meet_158 ?_
          refine A_goto C (pc := 161) 100 (by decide) dX7_meet_161 ?_
          exact hk100 _ _ hf
set_option maxRecDepth 100000 in
theorem w_X7_meet_L68 {x1 : Int32} {x2 : Int32} {x3 : Int32} {r : Int32 × Mem} (C : Cx p s m args c cX7_meet 6 RX7 B D Y) (hr : meth.sig.returnType = (some .int)) (hk : meth.locks = false)  : ∀ (n : Nat) (x4 : Int32) (M : Mem), f_X7_meet_L68 x1 x2 x3 n (x4, M) = some r → At p l e rm_X7_meet s m args below meth c 6 0 0 (QQ below args s B D Y r.2 o (some (.int r.1))) B D Y o 68 M [(0, .ref (B + 47)), (1, .int x1), (2, .int x2), (3, .int x3), (4, .int x4)] [] := by
  intro n
  induction n with
  | zero => intro x4 M hf; exact nomatch (show (none : Option (Int32 × Mem)) = some r from hf)
  | succ n hk68 =>
    intro x4 M hf
    replace hf : g_X7_meet_L68 x1 x2 x3 (f_X7_meet_L68 x1 x2 x3 n) (x4, M) = some r := hf
    dsimp only [g_X7_meet_L68] at hf
    refine A_iload C (pc := 68) 4 rfl dX7_meet_68 ?_
    refine A_aload_n C (pc := 70) 0 rfl dX7_meet_70 ?_
    refine A_g7_0 C (pc := 71) kf_X7_9 dX7_meet_71 ?_
    refine A_iload_n C (pc := 74) 1 rfl dX7_meet_74 ?_
    obtain ⟨c75, hf⟩ := chk_i hf
    refine A_iald C (pc := 75) (show IA 48 5 from ⟨rfl, rfl⟩) c75 dX7_meet_75 ?_
    refine A_icmp_ge C (pc := 76) 170 (by decide) dX7_meet_76 hf (fun _ hf => ?_) (fun _ hf => ?_)
    · refine A_aload_n C (pc := 170) 0 rfl dX7_meet_170 ?_
      refine A_iload_n C (pc := 171) 3 rfl dX7_meet_171 ?_
      refine A_iconst C (pc := 172) ic_4 dX7_meet_172 ?_
      obtain ⟨z173, h173, hf⟩ := bd_i hf
      refine A_callV0 C (pc := 173) (A := [.int x3, .int 4]) (rest := []) k_X7_63 ky_X7_becomes kv_X7_becomes (m_X7_becomes l B D Y o  h173) (by decide) rfl rfl rfl rfl (Nat.le_of_ble_eq_true rfl) ⟨rfl, rfl, Nat.le_of_ble_eq_true rfl, Nat.le_of_ble_eq_true rfl⟩ ⟨Nat.zero_le _, Nat.zero_le _⟩ dX7_meet_173 ?_
      refine A_aload_n C (pc := 176) 0 rfl dX7_meet_176 ?_
      refine A_iload_n C (pc := 177) 3 rfl dX7_meet_177 ?_
      obtain ⟨z178, h178, hf⟩ := bd_i hf
      refine A_callV1 C (pc := 178) (A := [.int x3]) (rest := []) k_X7_59 ky_X7_pairsOf kv_X7_pairsOf (m_X7_pairsOf l B D Y o  h178) (by decide) rfl rfl rfl rfl (Nat.le_of_ble_eq_true rfl) ⟨rfl, rfl, Nat.le_of_ble_eq_true rfl, Nat.le_of_ble_eq_true rfl⟩ ⟨Nat.zero_le _, Nat.zero_le _⟩ dX7_meet_178 ?_
      exact R_iM C (pc := 181) hr hk rfl dX7_meet_181 hf
    · refine A_aload_n C (pc := 79) 0 rfl dX7_meet_79 ?_
      refine A_g7_1 C (pc := 80) kf_X7_15 dX7_meet_80 ?_
      refine A_iconst C (pc := 83) ic_4 dX7_meet_83 ?_
      obtain ⟨c84, hf⟩ := chk_i hf
      refine A_aV C (pc := 84) c84 dX7_meet_84 ?_
      refine A_iload C (pc := 85) 4 rfl dX7_meet_85 ?_
      refine A_aload_n C (pc := 87) 0 rfl dX7_meet_87 ?_
      refine A_g7_1 C (pc := 88) kf_X7_15 dX7_meet_88 ?_
      refine A_iload_n C (pc := 91) 1 rfl dX7_meet_91 ?_
      obtain ⟨c92, hf⟩ := chk_i hf
      refine A_aV C (pc := 92) c92 dX7_meet_92 ?_
      refine A_iload C (pc := 93) 4 rfl dX7_meet_93 ?_
      obtain ⟨c95, hf⟩ := chk_i hf
      refine A_iald C (pc := 95) (iVal (inb_lt c92)) c95 dX7_meet_95 ?_
      obtain ⟨c96, hf⟩ := chk_i hf
      obtain ⟨M96, e96, hf⟩ := bd_i hf
      refine A_iast C (pc := 96) (iVal (inb_lt c84)) c96 dX7_meet_96 ?_
      refine A_nmM e96 ?_
      refine A_iconst C (pc := 97) ic_0 dX7_meet_97 ?_
      refine A_istore C (pc := 98) [(0, .ref (B + 47)), (1, .int x1), (2, .int x2), (3, .int x3), (4, .int x4), (5, .int 0)] (by decide) [1, 2, 3, 4, 5, 0] rfl dX7_meet_98 ?_
      exact w_X7_meet_L100 C hr hk hk68 FU _ _  hf
set_option maxRecDepth 100000 in
theorem w_X7_meet_L27 {M : Mem} {x1 : Int32} {x2 : Int32} {x3 : Int32} {y0 : Int32} {r : Int32 × Mem} (C : Cx p s m args c cX7_meet 6 RX7 B D Y) (hr : meth.sig.returnType = (some .int)) (hk : meth.locks = false)  (hf : f_X7_meet_L27 M x1 x2 x3 y0 = some r) : At p l e rm_X7_meet s m args below meth c 6 0 0 (QQ below args s B D Y r.2 o (some (.int r.1))) B D Y o 27 M [(0, .ref (B + 47)), (1, .int x1), (2, .int x2), (3, .int x3)] [.int y0, .ref (B + 47)] := by
  dsimp only [f_X7_meet_L27] at hf
  refine A_iconst C (pc := 27) ic_1 dX7_meet_27 ?_
  obtain ⟨z28, h28, hf⟩ := bd_i hf
  refine A_callV1 C (pc := 28) (A := [.int y0, .int 1]) (rest := []) k_X7_51 ky_X7_lets kv_X7_lets (m_X7_lets l B D Y o  h28) (by decide) rfl rfl rfl rfl (Nat.le_of_ble_eq_true rfl) ⟨rfl, rfl, Nat.le_of_ble_eq_true rfl, Nat.le_of_ble_eq_true rfl⟩ ⟨Nat.zero_le _, Nat.zero_le _⟩ dX7_meet_28 ?_
  refine A_if_ne C (pc := 31) 36 (by decide) dX7_meet_31 hf (fun _ hf => ?_) (fun _ hf => ?_)
  · refine A_aload_n C (pc := 36) 0 rfl dX7_meet_36 ?_
    refine A_g7_0 C (pc := 37) kf_X7_9 dX7_meet_37 ?_
    refine A_iload_n C (pc := 40) 1 rfl dX7_meet_40 ?_
    obtain ⟨c41, hf⟩ := chk_i hf
    refine A_iald C (pc := 41) (show IA 48 5 from ⟨rfl, rfl⟩) c41 dX7_meet_41 ?_
    refine A_aload_n C (pc := 42) 0 rfl dX7_meet_42 ?_
    refine A_g7_0 C (pc := 43) kf_X7_9 dX7_meet_43 ?_
    refine A_iload_n C (pc := 46) 2 rfl dX7_meet_46 ?_
    obtain ⟨c47, hf⟩ := chk_i hf
    refine A_iald C (pc := 47) (show IA 48 5 from ⟨rfl, rfl⟩) c47 dX7_meet_47 ?_
    refine A_icmp_eq C (pc := 48) 54 (by decide) dX7_meet_48 hf (fun _ hf => ?_) (fun _ hf => ?_)
    · refine A_aload_n C (pc := 54) 0 rfl dX7_meet_54 ?_
      refine A_iconst C (pc := 55) ic_4 dX7_meet_55 ?_
      refine A_aload_n C (pc := 56) 0 rfl dX7_meet_56 ?_
      refine A_g7_0 C (pc := 57) kf_X7_9 dX7_meet_57 ?_
      refine A_iload_n C (pc := 60) 1 rfl dX7_meet_60 ?_
      obtain ⟨c61, hf⟩ := chk_i hf
      refine A_iald C (pc := 61) (show IA 48 5 from ⟨rfl, rfl⟩) c61 dX7_meet_61 ?_
      obtain ⟨z62, h62, hf⟩ := bd_i hf
      refine A_callV0 C (pc := 62) (A := [.int 4, .int (z28.2 48 x1.toNatClampNeg)]) (rest := []) k_X7_55 ky_X7_empty kv_X7_empty (m_X7_empty l B D Y o  h62) (by decide) rfl rfl rfl rfl (Nat.le_of_ble_eq_true rfl) ⟨rfl, rfl, Nat.le_of_ble_eq_true rfl, Nat.le_of_ble_eq_true rfl⟩ ⟨Nat.zero_le _, Nat.zero_le _⟩ dX7_meet_62 ?_
      refine A_iconst C (pc := 65) ic_0 dX7_meet_65 ?_
      refine A_istore C (pc := 66) [(0, .ref (B + 47)), (1, .int x1), (2, .int x2), (3, .int x3), (4, .int 0)] (by decide) [1, 2, 3, 4, 0] rfl dX7_meet_66 ?_
      exact w_X7_meet_L68 C hr hk FU _ _  hf
    · refine A_bipush C (pc := 51) bc_m9 dX7_meet_51 ?_
      exact R_iM C (pc := 53) hr hk rfl dX7_meet_53 hf
  · refine A_iconst C (pc := 34) ic_0 dX7_meet_34 ?_
    exact R_iM C (pc := 35) hr hk rfl dX7_meet_35 hf
set_option maxRecDepth 100000 in
theorem w_X7_meet_L26 {M : Mem} {x1 : Int32} {x2 : Int32} {x3 : Int32} {r : Int32 × Mem} (C : Cx p s m args c cX7_meet 6 RX7 B D Y) (hr : meth.sig.returnType = (some .int)) (hk : meth.locks = false)  (hf : f_X7_meet_L26 M x1 x2 x3 = some r) : At p l e rm_X7_meet s m args below meth c 6 0 0 (QQ below args s B D Y r.2 o (some (.int r.1))) B D Y o 26 M [(0, .ref (B + 47)), (1, .int x1), (2, .int x2), (3, .int x3)] [.ref (B + 47)] := by
  dsimp only [f_X7_meet_L26] at hf
  refine A_iconst C (pc := 26) ic_0 dX7_meet_26 ?_
  exact w_X7_meet_L27 C hr hk hf
set_option maxRecDepth 100000 in
theorem m_X7_meet (l : Launch) (B : Nat) (D : va_G) (Y : Nat → ClassId) (o : Ou) {M : Mem} {x1 : Int32} {x2 : Int32} {x3 : Int32} {r : Int32 × Mem}  (hf : f_X7_meet M x1 x2 x3 = some r) : MW l yX7_meet cX7_meet 6 (some .int) rm_X7_meet B D Y o [.ref (B + 47), .int x1, .int x2, .int x3] M r.2 (some (.int r.1)) := by
  refine ofAt (L0 := [(0, .ref (B + 47)), (1, .int x1), (2, .int x2), (3, .int x3)]) (by decide +kernel) (Nat.le_of_ble_eq_true rfl) rfl (fun p e s m args below meth c C hr hk => ?_)
  dsimp only [f_X7_meet] at hf
  refine A_aload_n C (pc := 0) 0 rfl dX7_meet_0 ?_
  refine A_iload_n C (pc := 1) 1 rfl dX7_meet_1 ?_
  obtain ⟨z2, h2, hf⟩ := bd_i hf
  refine A_callS1 C (pc := 2) (A := [.int x1]) (rest := [.ref (B + 47)]) k_X7_43 ky_X7_isOrder ks_X7_isOrder (m_X7_isOrder l B D Y o  h2) rfl rfl (Nat.le_of_ble_eq_true rfl) ⟨rfl, rfl, Nat.le_of_ble_eq_true rfl, Nat.le_of_ble_eq_true rfl⟩ ⟨Nat.zero_le _, Nat.zero_le _⟩ dX7_meet_2 ?_
  refine A_if_eq C (pc := 5) 26 (by decide) dX7_meet_5 hf (fun _ hf => ?_) (fun _ hf => ?_)
  · exact w_X7_meet_L26 C hr hk hf
  · refine A_iload_n C (pc := 8) 2 rfl dX7_meet_8 ?_
    obtain ⟨z9, h9, hf⟩ := bd_i hf
    refine A_callS1 C (pc := 9) (A := [.int x2]) (rest := [.ref (B + 47)]) k_X7_43 ky_X7_isOrder ks_X7_isOrder (m_X7_isOrder l B D Y o  h9) rfl rfl (Nat.le_of_ble_eq_true rfl) ⟨rfl, rfl, Nat.le_of_ble_eq_true rfl, Nat.le_of_ble_eq_true rfl⟩ ⟨Nat.zero_le _, Nat.zero_le _⟩ dX7_meet_9 ?_
    refine A_if_eq C (pc := 12) 26 (by decide) dX7_meet_12 hf (fun _ hf => ?_) (fun _ hf => ?_)
    · exact w_X7_meet_L26 C hr hk hf
    · refine A_iload_n C (pc := 15) 3 rfl dX7_meet_15 ?_
      obtain ⟨z16, h16, hf⟩ := bd_i hf
      refine A_callS1 C (pc := 16) (A := [.int x3]) (rest := [.ref (B + 47)]) k_X7_43 ky_X7_isOrder ks_X7_isOrder (m_X7_isOrder l B D Y o  h16) rfl rfl (Nat.le_of_ble_eq_true rfl) ⟨rfl, rfl, Nat.le_of_ble_eq_true rfl, Nat.le_of_ble_eq_true rfl⟩ ⟨Nat.zero_le _, Nat.zero_le _⟩ dX7_meet_16 ?_
      refine A_if_eq C (pc := 19) 26 (by decide) dX7_meet_19 hf (fun _ hf => ?_) (fun _ hf => ?_)
      · exact w_X7_meet_L26 C hr hk hf
      · refine A_iconst C (pc := 22) ic_1 dX7_meet_22 ?_
        refine A_goto C (pc := 23) 27 (by decide) dX7_meet_23 ?_
        exact w_X7_meet_L27 C hr hk hf
set_option maxRecDepth 100000 in
theorem m_X7_things (l : Launch) (B : Nat) (D : va_G) (Y : Nat → ClassId) (o : Ou) {M : Mem} {x1 : Int32} {r : Int32 × Mem}  (hf : f_X7_things M x1 = some r) : MW l yX7_things cX7_things 2 (some .int) rm_X7_things B D Y o [.ref (B + 47), .int x1] M r.2 (some (.int r.1)) := by
  refine ofAt (L0 := [(0, .ref (B + 47)), (1, .int x1)]) (by decide +kernel) (Nat.le_of_ble_eq_true rfl) rfl (fun p e s m args below meth c C hr hk => ?_)
  dsimp only [f_X7_things] at hf
  refine A_aload_n C (pc := 0) 0 rfl dX7_things_0 ?_
  refine A_iload_n C (pc := 1) 1 rfl dX7_things_1 ?_
  obtain ⟨z2, h2, hf⟩ := bd_i hf
  refine A_callS1 C (pc := 2) (A := [.int x1]) (rest := [.ref (B + 47)]) k_X7_43 ky_X7_isOrder ks_X7_isOrder (m_X7_isOrder l B D Y o  h2) rfl rfl (Nat.le_of_ble_eq_true rfl) ⟨rfl, rfl, Nat.le_of_ble_eq_true rfl, Nat.le_of_ble_eq_true rfl⟩ ⟨Nat.zero_le _, Nat.zero_le _⟩ dX7_things_2 ?_
  refine A_iconst C (pc := 5) ic_1 dX7_things_5 ?_
  obtain ⟨z6, h6, hf⟩ := bd_i hf
  refine A_callV1 C (pc := 6) (A := [.int z2, .int 1]) (rest := []) k_X7_51 ky_X7_lets kv_X7_lets (m_X7_lets l B D Y o  h6) (by decide) rfl rfl rfl rfl (Nat.le_of_ble_eq_true rfl) ⟨rfl, rfl, Nat.le_of_ble_eq_true rfl, Nat.le_of_ble_eq_true rfl⟩ ⟨Nat.zero_le _, Nat.zero_le _⟩ dX7_things_6 ?_
  refine A_if_eq C (pc := 9) 21 (by decide) dX7_things_9 hf (fun _ hf => ?_) (fun _ hf => ?_)
  · refine A_iconst C (pc := 21) ic_0 dX7_things_21 ?_
    exact R_iM C (pc := 22) hr hk rfl dX7_things_22 hf
  · refine A_aload_n C (pc := 12) 0 rfl dX7_things_12 ?_
    refine A_g7_0 C (pc := 13) kf_X7_9 dX7_things_13 ?_
    refine A_iload_n C (pc := 16) 1 rfl dX7_things_16 ?_
    obtain ⟨c17, hf⟩ := chk_i hf
    refine A_iald C (pc := 17) (show IA 48 5 from ⟨rfl, rfl⟩) c17 dX7_things_17 ?_
    refine A_goto C (pc := 18) 22 (by decide) dX7_things_18 ?_
    exact R_iM C (pc := 22) hr hk rfl dX7_things_22 hf
set_option maxRecDepth 100000 in
theorem m_X7_pairs (l : Launch) (B : Nat) (D : va_G) (Y : Nat → ClassId) (o : Ou) {M : Mem} {x1 : Int32} {r : Int32 × Mem}  (hf : f_X7_pairs M x1 = some r) : MW l yX7_pairs cX7_pairs 2 (some .int) rm_X7_pairs B D Y o [.ref (B + 47), .int x1] M r.2 (some (.int r.1)) := by
  refine ofAt (L0 := [(0, .ref (B + 47)), (1, .int x1)]) (by decide +kernel) (Nat.le_of_ble_eq_true rfl) rfl (fun p e s m args below meth c C hr hk => ?_)
  dsimp only [f_X7_pairs] at hf
  refine A_aload_n C (pc := 0) 0 rfl dX7_pairs_0 ?_
  refine A_iload_n C (pc := 1) 1 rfl dX7_pairs_1 ?_
  obtain ⟨z2, h2, hf⟩ := bd_i hf
  refine A_callS1 C (pc := 2) (A := [.int x1]) (rest := [.ref (B + 47)]) k_X7_43 ky_X7_isOrder ks_X7_isOrder (m_X7_isOrder l B D Y o  h2) rfl rfl (Nat.le_of_ble_eq_true rfl) ⟨rfl, rfl, Nat.le_of_ble_eq_true rfl, Nat.le_of_ble_eq_true rfl⟩ ⟨Nat.zero_le _, Nat.zero_le _⟩ dX7_pairs_2 ?_
  refine A_iconst C (pc := 5) ic_1 dX7_pairs_5 ?_
  obtain ⟨z6, h6, hf⟩ := bd_i hf
  refine A_callV1 C (pc := 6) (A := [.int z2, .int 1]) (rest := []) k_X7_51 ky_X7_lets kv_X7_lets (m_X7_lets l B D Y o  h6) (by decide) rfl rfl rfl rfl (Nat.le_of_ble_eq_true rfl) ⟨rfl, rfl, Nat.le_of_ble_eq_true rfl, Nat.le_of_ble_eq_true rfl⟩ ⟨Nat.zero_le _, Nat.zero_le _⟩ dX7_pairs_6 ?_
  refine A_if_eq C (pc := 9) 20 (by decide) dX7_pairs_9 hf (fun _ hf => ?_) (fun _ hf => ?_)
  · refine A_iconst C (pc := 20) ic_0 dX7_pairs_20 ?_
    exact R_iM C (pc := 21) hr hk rfl dX7_pairs_21 hf
  · refine A_aload_n C (pc := 12) 0 rfl dX7_pairs_12 ?_
    refine A_iload_n C (pc := 13) 1 rfl dX7_pairs_13 ?_
    obtain ⟨z14, h14, hf⟩ := bd_i hf
    refine A_callV1 C (pc := 14) (A := [.int x1]) (rest := []) k_X7_59 ky_X7_pairsOf kv_X7_pairsOf (m_X7_pairsOf l B D Y o  h14) (by decide) rfl rfl rfl rfl (Nat.le_of_ble_eq_true rfl) ⟨rfl, rfl, Nat.le_of_ble_eq_true rfl, Nat.le_of_ble_eq_true rfl⟩ ⟨Nat.zero_le _, Nat.zero_le _⟩ dX7_pairs_14 ?_
    refine A_goto C (pc := 17) 21 (by decide) dX7_pairs_17 ?_
    exact R_iM C (pc := 21) hr hk rfl dX7_pairs_21 hf
set_option maxRecDepth 100000 in
theorem w_X7_nexts_L31 {M : Mem} {x1 : Int32} {x3 : Int32} {r : Int32 × Mem} (C : Cx p s m args c cX7_nexts 5 RX7 B D Y) (hr : meth.sig.returnType = (some .int)) (hk : meth.locks = false)  {k18 : (Int32 × Int32) → Option (Int32 × Mem)} (hk18 : ∀ (x2 : Int32) (x3 : Int32), k18 (x2, x3) = some r → At p l e rm_X7_nexts s m args below meth c 5 0 0 (QQ below args s B D Y r.2 o (some (.int r.1))) B D Y o 18 M [(0, .ref (B + 47)), (1, .int x1), (2, .int x2), (3, .int x3)] []) : ∀ (n : Nat) (x2 : Int32) (x4 : Int32), f_X7_nexts_L31 M x1 x3 k18 n (x2, x4) = some r → At p l e rm_X7_nexts s m args below meth c 5 0 0 (QQ below args s B D Y r.2 o (some (.int r.1))) B D Y o 31 M [(0, .ref (B + 47)), (1, .int x1), (2, .int x2), (3, .int x3), (4, .int x4)] [] := by
  intro n
  induction n with
  | zero => intro x2 x4 hf; exact nomatch (show (none : Option (Int32 × Mem)) = some r from hf)
  | succ n hk31 =>
    intro x2 x4 hf
    replace hf : g_X7_nexts_L31 M x1 x3 k18 (f_X7_nexts_L31 M x1 x3 k18 n) (x2, x4) = some r := hf
    dsimp only [g_X7_nexts_L31] at hf
    refine A_iload C (pc := 31) 4 rfl dX7_nexts_31 ?_
    refine A_aload_n C (pc := 33) 0 rfl dX7_nexts_33 ?_
    refine A_g7_0 C (pc := 34) kf_X7_9 dX7_nexts_34 ?_
    refine A_iload_n C (pc := 37) 1 rfl dX7_nexts_37 ?_
    obtain ⟨c38, hf⟩ := chk_i hf
    refine A_iald C (pc := 38) (show IA 48 5 from ⟨rfl, rfl⟩) c38 dX7_nexts_38 ?_
    refine A_icmp_ge C (pc := 39) 67 (by decide) dX7_nexts_39 hf (fun _ hf => ?_) (fun _ hf => ?_)
    · refine A_iinc C (pc := 67) (k0 := 3) [(0, .ref (B + 47)), (1, .int x1), (2, .int x2), (3, .int (x3 + 1))] rfl ic_1 (by decide) [1, 2, 3, 0] rfl dX7_nexts_67 ?_
      refine A_goto C (pc := 70) 18 (by decide) dX7_nexts_70 ?_
      exact hk18 _ _ hf
    · refine A_iload_n C (pc := 42) 2 rfl dX7_nexts_42 ?_
      refine A_aload_n C (pc := 43) 0 rfl dX7_nexts_43 ?_
      refine A_iload_n C (pc := 44) 1 rfl dX7_nexts_44 ?_
      refine A_iload_n C (pc := 45) 3 rfl dX7_nexts_45 ?_
      refine A_iload C (pc := 46) 4 rfl dX7_nexts_46 ?_
      obtain ⟨z48, h48, hf⟩ := bd_i hf
      refine A_callV1 C (pc := 48) (A := [.int x1, .int x3, .int x4]) (rest := [.int x2]) k_X7_78 ky_X7_next kv_X7_next (m_X7_next l B D Y o  h48) (by decide) rfl rfl rfl rfl (Nat.le_of_ble_eq_true rfl) ⟨rfl, rfl, Nat.le_of_ble_eq_true rfl, Nat.le_of_ble_eq_true rfl⟩ ⟨Nat.zero_le _, Nat.zero_le _⟩ dX7_nexts_48 ?_
      refine A_if_eq C (pc := 51) 58 (by decide) dX7_nexts_51 hf (fun _ hf => ?_) (fun _ hf => ?_)
      · refine A_iconst C (pc := 58) ic_0 dX7_nexts_58 ?_
        refine A_iadd C (pc := 59) dX7_nexts_59 ?_
        obtain ⟨v60, e60, hf⟩ := bd_i hf
        refine A_nmI e60 ?_
        refine A_istore_n C (pc := 60) [(0, .ref (B + 47)), (1, .int x1), (2, .int v60), (3, .int x3), (4, .int x4)] rfl (by decide) [1, 2, 0, 3, 4] rfl dX7_nexts_60 ?_
        refine A_iinc C (pc := 61) (k0 := 4) [(0, .ref (B + 47)), (1, .int x1), (2, .int v60), (3, .int x3), (4, .int (x4 + 1))] rfl ic_1 (by decide) [1, 2, 3, 4, 0] rfl dX7_nexts_61 ?_
        refine A_goto C (pc := 64) 31 (by decide) dX7_nexts_64 ?_
        exact hk31 _ _ hf
      · refine A_iconst C (pc := 54) ic_1 dX7_nexts_54 ?_
        refine A_goto C (pc := 55) 59 (by decide) dX7_nexts_55 ?_
        refine A_iadd C (pc := 59) dX7_nexts_59 ?_
        obtain ⟨v60, e60, hf⟩ := bd_i hf
        refine A_nmI e60 ?_
        refine A_istore_n C (pc := 60) [(0, .ref (B + 47)), (1, .int x1), (2, .int v60), (3, .int x3), (4, .int x4)] rfl (by decide) [1, 2, 0, 3, 4] rfl dX7_nexts_60 ?_
        refine A_iinc C (pc := 61) (k0 := 4) [(0, .ref (B + 47)), (1, .int x1), (2, .int v60), (3, .int x3), (4, .int (x4 + 1))] rfl ic_1 (by decide) [1, 2, 3, 4, 0] rfl dX7_nexts_61 ?_
        refine A_goto C (pc := 64) 31 (by decide) dX7_nexts_64 ?_
        exact hk31 _ _ hf
set_option maxRecDepth 100000 in
theorem w_X7_nexts_L18 {M : Mem} {x1 : Int32} {r : Int32 × Mem} (C : Cx p s m args c cX7_nexts 5 RX7 B D Y) (hr : meth.sig.returnType = (some .int)) (hk : meth.locks = false)  : ∀ (n : Nat) (x2 : Int32) (x3 : Int32), f_X7_nexts_L18 M x1 n (x2, x3) = some r → At p l e rm_X7_nexts s m args below meth c 5 0 0 (QQ below args s B D Y r.2 o (some (.int r.1))) B D Y o 18 M [(0, .ref (B + 47)), (1, .int x1), (2, .int x2), (3, .int x3)] [] := by
  intro n
  induction n with
  | zero => intro x2 x3 hf; exact nomatch (show (none : Option (Int32 × Mem)) = some r from hf)
  | succ n hk18 =>
    intro x2 x3 hf
    replace hf : g_X7_nexts_L18 M x1 (f_X7_nexts_L18 M x1 n) (x2, x3) = some r := hf
    dsimp only [g_X7_nexts_L18] at hf
    refine A_iload_n C (pc := 18) 3 rfl dX7_nexts_18 ?_
    refine A_aload_n C (pc := 19) 0 rfl dX7_nexts_19 ?_
    refine A_g7_0 C (pc := 20) kf_X7_9 dX7_nexts_20 ?_
    refine A_iload_n C (pc := 23) 1 rfl dX7_nexts_23 ?_
    obtain ⟨c24, hf⟩ := chk_i hf
    refine A_iald C (pc := 24) (show IA 48 5 from ⟨rfl, rfl⟩) c24 dX7_nexts_24 ?_
    refine A_icmp_ge C (pc := 25) 73 (by decide) dX7_nexts_25 hf (fun _ hf => ?_) (fun _ hf => ?_)
    · refine A_iload_n C (pc := 73) 2 rfl dX7_nexts_73 ?_
      exact R_iM C (pc := 74) hr hk rfl dX7_nexts_74 hf
    · refine A_iconst C (pc := 28) ic_0 dX7_nexts_28 ?_
      refine A_istore C (pc := 29) [(0, .ref (B + 47)), (1, .int x1), (2, .int x2), (3, .int x3), (4, .int 0)] (by decide) [1, 2, 3, 4, 0] rfl dX7_nexts_29 ?_
      exact w_X7_nexts_L31 C hr hk hk18 FU _ _  hf
set_option maxRecDepth 100000 in
theorem m_X7_nexts (l : Launch) (B : Nat) (D : va_G) (Y : Nat → ClassId) (o : Ou) {M : Mem} {x1 : Int32} {r : Int32 × Mem}  (hf : f_X7_nexts M x1 = some r) : MW l yX7_nexts cX7_nexts 5 (some .int) rm_X7_nexts B D Y o [.ref (B + 47), .int x1] M r.2 (some (.int r.1)) := by
  refine ofAt (L0 := [(0, .ref (B + 47)), (1, .int x1)]) (by decide +kernel) (Nat.le_of_ble_eq_true rfl) rfl (fun p e s m args below meth c C hr hk => ?_)
  dsimp only [f_X7_nexts] at hf
  refine A_aload_n C (pc := 0) 0 rfl dX7_nexts_0 ?_
  refine A_iload_n C (pc := 1) 1 rfl dX7_nexts_1 ?_
  obtain ⟨z2, h2, hf⟩ := bd_i hf
  refine A_callS1 C (pc := 2) (A := [.int x1]) (rest := [.ref (B + 47)]) k_X7_43 ky_X7_isOrder ks_X7_isOrder (m_X7_isOrder l B D Y o  h2) rfl rfl (Nat.le_of_ble_eq_true rfl) ⟨rfl, rfl, Nat.le_of_ble_eq_true rfl, Nat.le_of_ble_eq_true rfl⟩ ⟨Nat.zero_le _, Nat.zero_le _⟩ dX7_nexts_2 ?_
  refine A_iconst C (pc := 5) ic_1 dX7_nexts_5 ?_
  obtain ⟨z6, h6, hf⟩ := bd_i hf
  refine A_callV1 C (pc := 6) (A := [.int z2, .int 1]) (rest := []) k_X7_51 ky_X7_lets kv_X7_lets (m_X7_lets l B D Y o  h6) (by decide) rfl rfl rfl rfl (Nat.le_of_ble_eq_true rfl) ⟨rfl, rfl, Nat.le_of_ble_eq_true rfl, Nat.le_of_ble_eq_true rfl⟩ ⟨Nat.zero_le _, Nat.zero_le _⟩ dX7_nexts_6 ?_
  refine A_if_ne C (pc := 9) 14 (by decide) dX7_nexts_9 hf (fun _ hf => ?_) (fun _ hf => ?_)
  · refine A_iconst C (pc := 14) ic_0 dX7_nexts_14 ?_
    refine A_istore_n C (pc := 15) [(0, .ref (B + 47)), (1, .int x1), (2, .int 0)] rfl (by decide) [1, 2, 0] rfl dX7_nexts_15 ?_
    refine A_iconst C (pc := 16) ic_0 dX7_nexts_16 ?_
    refine A_istore_n C (pc := 17) [(0, .ref (B + 47)), (1, .int x1), (2, .int 0), (3, .int 0)] rfl (by decide) [1, 2, 3, 0] rfl dX7_nexts_17 ?_
    exact w_X7_nexts_L18 C hr hk FU _ _  hf
  · refine A_iconst C (pc := 12) ic_0 dX7_nexts_12 ?_
    exact R_iM C (pc := 13) hr hk rfl dX7_nexts_13 hf
set_option maxRecDepth 100000 in
theorem w_X7_sign_L24 {M : Mem} {x1 : Int32} {x2 : Int32} {x3 : Int32} {y0 : Int32} {r : Int32 × Mem} (C : Cx p s m args c cX7_sign 4 RX7 B D Y) (hr : meth.sig.returnType = (some .char)) (hk : meth.locks = false)  (hf : f_X7_sign_L24 M x1 x2 x3 y0 = some r) : At p l e rm_X7_sign s m args below meth c 4 0 0 (QQ below args s B D Y r.2 o (some (.int r.1))) B D Y o 24 M [(0, .ref (B + 47)), (1, .int x1), (2, .int x2), (3, .int x3)] [.int y0, .ref (B + 47)] := by
  dsimp only [f_X7_sign_L24] at hf
  refine A_iconst C (pc := 24) ic_1 dX7_sign_24 ?_
  obtain ⟨z25, h25, hf⟩ := bd_i hf
  refine A_callV1 C (pc := 25) (A := [.int y0, .int 1]) (rest := []) k_X7_51 ky_X7_lets kv_X7_lets (m_X7_lets l B D Y o  h25) (by decide) rfl rfl rfl rfl (Nat.le_of_ble_eq_true rfl) ⟨rfl, rfl, Nat.le_of_ble_eq_true rfl, Nat.le_of_ble_eq_true rfl⟩ ⟨Nat.zero_le _, Nat.zero_le _⟩ dX7_sign_25 ?_
  refine A_if_ne C (pc := 28) 34 (by decide) dX7_sign_28 hf (fun _ hf => ?_) (fun _ hf => ?_)
  · refine A_iload_n C (pc := 34) 2 rfl dX7_sign_34 ?_
    refine A_iload_n C (pc := 35) 3 rfl dX7_sign_35 ?_
    refine A_icmp_ne C (pc := 36) 44 (by decide) dX7_sign_36 hf (fun _ hf => ?_) (fun _ hf => ?_)
    · refine A_aload_n C (pc := 44) 0 rfl dX7_sign_44 ?_
      refine A_g7_2 C (pc := 45) kf_X7_20 dX7_sign_45 ?_
      refine A_iload_n C (pc := 48) 1 rfl dX7_sign_48 ?_
      obtain ⟨c49, hf⟩ := chk_i hf
      refine A_aB C (pc := 49) c49 dX7_sign_49 ?_
      refine A_iload_n C (pc := 50) 2 rfl dX7_sign_50 ?_
      obtain ⟨c51, hf⟩ := chk_i hf
      refine A_aR C (pc := 51) (kBel (inb_lt c49)) c51 dX7_sign_51 ?_
      refine A_iload_n C (pc := 52) 3 rfl dX7_sign_52 ?_
      obtain ⟨c53, hf⟩ := chk_i hf
      refine A_zald C (pc := 53) (kRow (kBel (inb_lt c49)) (inb_lt c51)) c53 dX7_sign_53 ?_
      refine A_if_eq C (pc := 54) 62 (by decide) dX7_sign_54 hf (fun _ hf => ?_) (fun _ hf => ?_)
      · refine A_aload_n C (pc := 62) 0 rfl dX7_sign_62 ?_
        refine A_g7_2 C (pc := 63) kf_X7_20 dX7_sign_63 ?_
        refine A_iload_n C (pc := 66) 1 rfl dX7_sign_66 ?_
        obtain ⟨c67, hf⟩ := chk_i hf
        refine A_aB C (pc := 67) c67 dX7_sign_67 ?_
        refine A_iload_n C (pc := 68) 3 rfl dX7_sign_68 ?_
        obtain ⟨c69, hf⟩ := chk_i hf
        refine A_aR C (pc := 69) (kBel (inb_lt c67)) c69 dX7_sign_69 ?_
        refine A_iload_n C (pc := 70) 2 rfl dX7_sign_70 ?_
        obtain ⟨c71, hf⟩ := chk_i hf
        refine A_zald C (pc := 71) (kRow (kBel (inb_lt c67)) (inb_lt c69)) c71 dX7_sign_71 ?_
        refine A_if_eq C (pc := 72) 80 (by decide) dX7_sign_72 hf (fun _ hf => ?_) (fun _ hf => ?_)
        · refine A_bipush C (pc := 80) bc_124 dX7_sign_80 ?_
          exact R_iM C (pc := 82) hr hk (by decide +kernel) dX7_sign_82 hf
        · refine A_bipush C (pc := 75) bc_62 dX7_sign_75 ?_
          refine A_goto C (pc := 77) 82 (by decide) dX7_sign_77 ?_
          exact R_iM C (pc := 82) hr hk (by decide +kernel) dX7_sign_82 hf
      · refine A_bipush C (pc := 57) bc_60 dX7_sign_57 ?_
        refine A_goto C (pc := 59) 82 (by decide) dX7_sign_59 ?_
        exact R_iM C (pc := 82) hr hk (by decide +kernel) dX7_sign_82 hf
    · refine A_bipush C (pc := 39) bc_61 dX7_sign_39 ?_
      refine A_goto C (pc := 41) 82 (by decide) dX7_sign_41 ?_
      exact R_iM C (pc := 82) hr hk (by decide +kernel) dX7_sign_82 hf
  · refine A_bipush C (pc := 31) bc_32 dX7_sign_31 ?_
    exact R_iM C (pc := 33) hr hk (by decide +kernel) dX7_sign_33 hf
set_option maxRecDepth 100000 in
theorem w_X7_sign_L23 {M : Mem} {x1 : Int32} {x2 : Int32} {x3 : Int32} {r : Int32 × Mem} (C : Cx p s m args c cX7_sign 4 RX7 B D Y) (hr : meth.sig.returnType = (some .char)) (hk : meth.locks = false)  (hf : f_X7_sign_L23 M x1 x2 x3 = some r) : At p l e rm_X7_sign s m args below meth c 4 0 0 (QQ below args s B D Y r.2 o (some (.int r.1))) B D Y o 23 M [(0, .ref (B + 47)), (1, .int x1), (2, .int x2), (3, .int x3)] [.ref (B + 47)] := by
  dsimp only [f_X7_sign_L23] at hf
  refine A_iconst C (pc := 23) ic_0 dX7_sign_23 ?_
  exact w_X7_sign_L24 C hr hk hf
set_option maxRecDepth 100000 in
theorem m_X7_sign (l : Launch) (B : Nat) (D : va_G) (Y : Nat → ClassId) (o : Ou) {M : Mem} {x1 : Int32} {x2 : Int32} {x3 : Int32} {r : Int32 × Mem}  (hf : f_X7_sign M x1 x2 x3 = some r) : MW l yX7_sign cX7_sign 4 (some .char) rm_X7_sign B D Y o [.ref (B + 47), .int x1, .int x2, .int x3] M r.2 (some (.int r.1)) := by
  refine ofAt (L0 := [(0, .ref (B + 47)), (1, .int x1), (2, .int x2), (3, .int x3)]) (by decide +kernel) (Nat.le_of_ble_eq_true rfl) rfl (fun p e s m args below meth c C hr hk => ?_)
  dsimp only [f_X7_sign] at hf
  refine A_aload_n C (pc := 0) 0 rfl dX7_sign_0 ?_
  refine A_aload_n C (pc := 1) 0 rfl dX7_sign_1 ?_
  refine A_iload_n C (pc := 2) 1 rfl dX7_sign_2 ?_
  refine A_iload_n C (pc := 3) 2 rfl dX7_sign_3 ?_
  obtain ⟨z4, h4, hf⟩ := bd_i hf
  refine A_callV1 C (pc := 4) (A := [.int x1, .int x2]) (rest := [.ref (B + 47)]) k_X7_66 ky_X7_isThing kv_X7_isThing (m_X7_isThing l B D Y o  h4) (by decide) rfl rfl rfl rfl (Nat.le_of_ble_eq_true rfl) ⟨rfl, rfl, Nat.le_of_ble_eq_true rfl, Nat.le_of_ble_eq_true rfl⟩ ⟨Nat.zero_le _, Nat.zero_le _⟩ dX7_sign_4 ?_
  refine A_if_eq C (pc := 7) 23 (by decide) dX7_sign_7 hf (fun _ hf => ?_) (fun _ hf => ?_)
  · exact w_X7_sign_L23 C hr hk hf
  · refine A_aload_n C (pc := 10) 0 rfl dX7_sign_10 ?_
    refine A_iload_n C (pc := 11) 1 rfl dX7_sign_11 ?_
    refine A_iload_n C (pc := 12) 3 rfl dX7_sign_12 ?_
    obtain ⟨z13, h13, hf⟩ := bd_i hf
    refine A_callV1 C (pc := 13) (A := [.int x1, .int x3]) (rest := [.ref (B + 47)]) k_X7_66 ky_X7_isThing kv_X7_isThing (m_X7_isThing l B D Y o  h13) (by decide) rfl rfl rfl rfl (Nat.le_of_ble_eq_true rfl) ⟨rfl, rfl, Nat.le_of_ble_eq_true rfl, Nat.le_of_ble_eq_true rfl⟩ ⟨Nat.zero_le _, Nat.zero_le _⟩ dX7_sign_13 ?_
    refine A_if_eq C (pc := 16) 23 (by decide) dX7_sign_16 hf (fun _ hf => ?_) (fun _ hf => ?_)
    · exact w_X7_sign_L23 C hr hk hf
    · refine A_iconst C (pc := 19) ic_1 dX7_sign_19 ?_
      refine A_goto C (pc := 20) 24 (by decide) dX7_sign_20 ?_
      exact w_X7_sign_L24 C hr hk hf
set_option maxRecDepth 100000 in
theorem w_X7_isNext_L24 {M : Mem} {x1 : Int32} {x2 : Int32} {x3 : Int32} {y0 : Int32} {r : Int32 × Mem} (C : Cx p s m args c cX7_isNext 4 RX7 B D Y) (hr : meth.sig.returnType = (some .boolean)) (hk : meth.locks = false)  (hf : f_X7_isNext_L24 M x1 x2 x3 y0 = some r) : At p l e rm_X7_isNext s m args below meth c 4 0 0 (QQ below args s B D Y r.2 o (some (.int r.1))) B D Y o 24 M [(0, .ref (B + 47)), (1, .int x1), (2, .int x2), (3, .int x3)] [.int y0, .ref (B + 47)] := by
  dsimp only [f_X7_isNext_L24] at hf
  refine A_iconst C (pc := 24) ic_1 dX7_isNext_24 ?_
  obtain ⟨z25, h25, hf⟩ := bd_i hf
  refine A_callV1 C (pc := 25) (A := [.int y0, .int 1]) (rest := []) k_X7_51 ky_X7_lets kv_X7_lets (m_X7_lets l B D Y o  h25) (by decide) rfl rfl rfl rfl (Nat.le_of_ble_eq_true rfl) ⟨rfl, rfl, Nat.le_of_ble_eq_true rfl, Nat.le_of_ble_eq_true rfl⟩ ⟨Nat.zero_le _, Nat.zero_le _⟩ dX7_isNext_25 ?_
  refine A_if_eq C (pc := 28) 45 (by decide) dX7_isNext_28 hf (fun _ hf => ?_) (fun _ hf => ?_)
  · refine A_iconst C (pc := 45) ic_0 dX7_isNext_45 ?_
    exact R_iM C (pc := 46) hr hk nz_0 dX7_isNext_46 hf
  · refine A_aload_n C (pc := 31) 0 rfl dX7_isNext_31 ?_
    refine A_iload_n C (pc := 32) 1 rfl dX7_isNext_32 ?_
    refine A_iload_n C (pc := 33) 2 rfl dX7_isNext_33 ?_
    refine A_iload_n C (pc := 34) 3 rfl dX7_isNext_34 ?_
    obtain ⟨z35, h35, hf⟩ := bd_i hf
    refine A_callV1 C (pc := 35) (A := [.int x1, .int x2, .int x3]) (rest := []) k_X7_78 ky_X7_next kv_X7_next (m_X7_next l B D Y o  h35) (by decide) rfl rfl rfl rfl (Nat.le_of_ble_eq_true rfl) ⟨rfl, rfl, Nat.le_of_ble_eq_true rfl, Nat.le_of_ble_eq_true rfl⟩ ⟨Nat.zero_le _, Nat.zero_le _⟩ dX7_isNext_35 ?_
    refine A_if_eq C (pc := 38) 45 (by decide) dX7_isNext_38 hf (fun _ hf => ?_) (fun _ hf => ?_)
    · refine A_iconst C (pc := 45) ic_0 dX7_isNext_45 ?_
      exact R_iM C (pc := 46) hr hk nz_0 dX7_isNext_46 hf
    · refine A_iconst C (pc := 41) ic_1 dX7_isNext_41 ?_
      refine A_goto C (pc := 42) 46 (by decide) dX7_isNext_42 ?_
      exact R_iM C (pc := 46) hr hk nz_1 dX7_isNext_46 hf
set_option maxRecDepth 100000 in
theorem w_X7_isNext_L23 {M : Mem} {x1 : Int32} {x2 : Int32} {x3 : Int32} {r : Int32 × Mem} (C : Cx p s m args c cX7_isNext 4 RX7 B D Y) (hr : meth.sig.returnType = (some .boolean)) (hk : meth.locks = false)  (hf : f_X7_isNext_L23 M x1 x2 x3 = some r) : At p l e rm_X7_isNext s m args below meth c 4 0 0 (QQ below args s B D Y r.2 o (some (.int r.1))) B D Y o 23 M [(0, .ref (B + 47)), (1, .int x1), (2, .int x2), (3, .int x3)] [.ref (B + 47)] := by
  dsimp only [f_X7_isNext_L23] at hf
  refine A_iconst C (pc := 23) ic_0 dX7_isNext_23 ?_
  exact w_X7_isNext_L24 C hr hk hf
set_option maxRecDepth 100000 in
theorem m_X7_isNext (l : Launch) (B : Nat) (D : va_G) (Y : Nat → ClassId) (o : Ou) {M : Mem} {x1 : Int32} {x2 : Int32} {x3 : Int32} {r : Int32 × Mem}  (hf : f_X7_isNext M x1 x2 x3 = some r) : MW l yX7_isNext cX7_isNext 4 (some .boolean) rm_X7_isNext B D Y o [.ref (B + 47), .int x1, .int x2, .int x3] M r.2 (some (.int r.1)) := by
  refine ofAt (L0 := [(0, .ref (B + 47)), (1, .int x1), (2, .int x2), (3, .int x3)]) (by decide +kernel) (Nat.le_of_ble_eq_true rfl) rfl (fun p e s m args below meth c C hr hk => ?_)
  dsimp only [f_X7_isNext] at hf
  refine A_aload_n C (pc := 0) 0 rfl dX7_isNext_0 ?_
  refine A_aload_n C (pc := 1) 0 rfl dX7_isNext_1 ?_
  refine A_iload_n C (pc := 2) 1 rfl dX7_isNext_2 ?_
  refine A_iload_n C (pc := 3) 2 rfl dX7_isNext_3 ?_
  obtain ⟨z4, h4, hf⟩ := bd_i hf
  refine A_callV1 C (pc := 4) (A := [.int x1, .int x2]) (rest := [.ref (B + 47)]) k_X7_66 ky_X7_isThing kv_X7_isThing (m_X7_isThing l B D Y o  h4) (by decide) rfl rfl rfl rfl (Nat.le_of_ble_eq_true rfl) ⟨rfl, rfl, Nat.le_of_ble_eq_true rfl, Nat.le_of_ble_eq_true rfl⟩ ⟨Nat.zero_le _, Nat.zero_le _⟩ dX7_isNext_4 ?_
  refine A_if_eq C (pc := 7) 23 (by decide) dX7_isNext_7 hf (fun _ hf => ?_) (fun _ hf => ?_)
  · exact w_X7_isNext_L23 C hr hk hf
  · refine A_aload_n C (pc := 10) 0 rfl dX7_isNext_10 ?_
    refine A_iload_n C (pc := 11) 1 rfl dX7_isNext_11 ?_
    refine A_iload_n C (pc := 12) 3 rfl dX7_isNext_12 ?_
    obtain ⟨z13, h13, hf⟩ := bd_i hf
    refine A_callV1 C (pc := 13) (A := [.int x1, .int x3]) (rest := [.ref (B + 47)]) k_X7_66 ky_X7_isThing kv_X7_isThing (m_X7_isThing l B D Y o  h13) (by decide) rfl rfl rfl rfl (Nat.le_of_ble_eq_true rfl) ⟨rfl, rfl, Nat.le_of_ble_eq_true rfl, Nat.le_of_ble_eq_true rfl⟩ ⟨Nat.zero_le _, Nat.zero_le _⟩ dX7_isNext_13 ?_
    refine A_if_eq C (pc := 16) 23 (by decide) dX7_isNext_16 hf (fun _ hf => ?_) (fun _ hf => ?_)
    · exact w_X7_isNext_L23 C hr hk hf
    · refine A_iconst C (pc := 19) ic_1 dX7_isNext_19 ?_
      refine A_goto C (pc := 20) 24 (by decide) dX7_isNext_20 ?_
      exact w_X7_isNext_L24 C hr hk hf
set_option maxRecDepth 100000 in
theorem w_X7_upperOf_L5 {M : Mem} {x1 : Int32} {x2 : Int32} {r : Int32} (C : Cx p s m args c cX7_upperOf 5 RX7 B D Y) (hr : meth.sig.returnType = (some .int)) (hk : meth.locks = false)  : ∀ (n : Nat) (x3 : Int32) (x4 : Int32), f_X7_upperOf_L5 M x1 x2 n (x3, x4) = some r → At p l e rm_X7_upperOf s m args below meth c 5 0 0 (QQ below args s B D Y M o (some (.int r))) B D Y o 5 M [(0, .ref (B + 47)), (1, .int x1), (2, .int x2), (3, .int x3), (4, .int x4)] [] := by
  intro n
  induction n with
  | zero => intro x3 x4 hf; exact nomatch (show (none : Option Int32) = some r from hf)
  | succ n hk5 =>
    intro x3 x4 hf
    replace hf : g_X7_upperOf_L5 M x1 x2 (f_X7_upperOf_L5 M x1 x2 n) (x3, x4) = some r := hf
    dsimp only [g_X7_upperOf_L5] at hf
    refine A_iload C (pc := 5) 4 rfl dX7_upperOf_5 ?_
    refine A_aload_n C (pc := 7) 0 rfl dX7_upperOf_7 ?_
    refine A_g7_0 C (pc := 8) kf_X7_9 dX7_upperOf_8 ?_
    refine A_iload_n C (pc := 11) 1 rfl dX7_upperOf_11 ?_
    obtain ⟨c12, hf⟩ := chk_i hf
    refine A_iald C (pc := 12) (show IA 48 5 from ⟨rfl, rfl⟩) c12 dX7_upperOf_12 ?_
    refine A_icmp_ge C (pc := 13) 47 (by decide) dX7_upperOf_13 hf (fun _ hf => ?_) (fun _ hf => ?_)
    · refine A_iload_n C (pc := 47) 3 rfl dX7_upperOf_47 ?_
      exact R_iP C (pc := 48) hr hk rfl dX7_upperOf_48 hf
    · refine A_iload_n C (pc := 16) 3 rfl dX7_upperOf_16 ?_
      refine A_aload_n C (pc := 17) 0 rfl dX7_upperOf_17 ?_
      refine A_g7_2 C (pc := 18) kf_X7_20 dX7_upperOf_18 ?_
      refine A_iload_n C (pc := 21) 1 rfl dX7_upperOf_21 ?_
      obtain ⟨c22, hf⟩ := chk_i hf
      refine A_aB C (pc := 22) c22 dX7_upperOf_22 ?_
      refine A_iload_n C (pc := 23) 2 rfl dX7_upperOf_23 ?_
      obtain ⟨c24, hf⟩ := chk_i hf
      refine A_aR C (pc := 24) (kBel (inb_lt c22)) c24 dX7_upperOf_24 ?_
      refine A_iload C (pc := 25) 4 rfl dX7_upperOf_25 ?_
      obtain ⟨c27, hf⟩ := chk_i hf
      refine A_zald C (pc := 27) (kRow (kBel (inb_lt c22)) (inb_lt c24)) c27 dX7_upperOf_27 ?_
      refine A_if_eq C (pc := 28) 38 (by decide) dX7_upperOf_28 hf (fun _ hf => ?_) (fun _ hf => ?_)
      · refine A_iconst C (pc := 38) ic_0 dX7_upperOf_38 ?_
        refine A_iadd C (pc := 39) dX7_upperOf_39 ?_
        obtain ⟨v40, e40, hf⟩ := bd_i hf
        refine A_nmI e40 ?_
        refine A_istore_n C (pc := 40) [(0, .ref (B + 47)), (1, .int x1), (2, .int x2), (3, .int v40), (4, .int x4)] rfl (by decide) [1, 2, 3, 0, 4] rfl dX7_upperOf_40 ?_
        refine A_iinc C (pc := 41) (k0 := 4) [(0, .ref (B + 47)), (1, .int x1), (2, .int x2), (3, .int v40), (4, .int (x4 + 1))] rfl ic_1 (by decide) [1, 2, 3, 4, 0] rfl dX7_upperOf_41 ?_
        refine A_goto C (pc := 44) 5 (by decide) dX7_upperOf_44 ?_
        exact hk5 _ _ hf
      · refine A_iconst C (pc := 31) ic_1 dX7_upperOf_31 ?_
        refine A_iload C (pc := 32) 4 rfl dX7_upperOf_32 ?_
        refine A_ishl C (pc := 34) dX7_upperOf_34 ?_
        refine A_goto C (pc := 35) 39 (by decide) dX7_upperOf_35 ?_
        refine A_iadd C (pc := 39) dX7_upperOf_39 ?_
        obtain ⟨v40, e40, hf⟩ := bd_i hf
        refine A_nmI e40 ?_
        refine A_istore_n C (pc := 40) [(0, .ref (B + 47)), (1, .int x1), (2, .int x2), (3, .int v40), (4, .int x4)] rfl (by decide) [1, 2, 3, 0, 4] rfl dX7_upperOf_40 ?_
        refine A_iinc C (pc := 41) (k0 := 4) [(0, .ref (B + 47)), (1, .int x1), (2, .int x2), (3, .int v40), (4, .int (x4 + 1))] rfl ic_1 (by decide) [1, 2, 3, 4, 0] rfl dX7_upperOf_41 ?_
        refine A_goto C (pc := 44) 5 (by decide) dX7_upperOf_44 ?_
        exact hk5 _ _ hf
set_option maxRecDepth 100000 in
theorem m_X7_upperOf (l : Launch) (B : Nat) (D : va_G) (Y : Nat → ClassId) (o : Ou) {M : Mem} {x1 : Int32} {x2 : Int32} {r : Int32}  (hf : f_X7_upperOf M x1 x2 = some r) : MW l yX7_upperOf cX7_upperOf 5 (some .int) rm_X7_upperOf B D Y o [.ref (B + 47), .int x1, .int x2] M M (some (.int r)) := by
  refine ofAt (L0 := [(0, .ref (B + 47)), (1, .int x1), (2, .int x2)]) (by decide +kernel) (Nat.le_of_ble_eq_true rfl) rfl (fun p e s m args below meth c C hr hk => ?_)
  dsimp only [f_X7_upperOf] at hf
  refine A_iconst C (pc := 0) ic_0 dX7_upperOf_0 ?_
  refine A_istore_n C (pc := 1) [(0, .ref (B + 47)), (1, .int x1), (2, .int x2), (3, .int 0)] rfl (by decide) [1, 2, 3, 0] rfl dX7_upperOf_1 ?_
  refine A_iconst C (pc := 2) ic_0 dX7_upperOf_2 ?_
  refine A_istore C (pc := 3) [(0, .ref (B + 47)), (1, .int x1), (2, .int x2), (3, .int 0), (4, .int 0)] (by decide) [1, 2, 3, 4, 0] rfl dX7_upperOf_3 ?_
  exact w_X7_upperOf_L5 C hr hk FU _ _  hf
set_option maxRecDepth 100000 in
theorem m_X7_lower (l : Launch) (B : Nat) (D : va_G) (Y : Nat → ClassId) (o : Ou) {M : Mem} {x1 : Int32} {x2 : Int32} {r : Int32 × Mem}  (hf : f_X7_lower M x1 x2 = some r) : MW l yX7_lower cX7_lower 3 (some .int) rm_X7_lower B D Y o [.ref (B + 47), .int x1, .int x2] M r.2 (some (.int r.1)) := by
  refine ofAt (L0 := [(0, .ref (B + 47)), (1, .int x1), (2, .int x2)]) (by decide +kernel) (Nat.le_of_ble_eq_true rfl) rfl (fun p e s m args below meth c C hr hk => ?_)
  dsimp only [f_X7_lower] at hf
  refine A_aload_n C (pc := 0) 0 rfl dX7_lower_0 ?_
  refine A_aload_n C (pc := 1) 0 rfl dX7_lower_1 ?_
  refine A_iload_n C (pc := 2) 1 rfl dX7_lower_2 ?_
  refine A_iload_n C (pc := 3) 2 rfl dX7_lower_3 ?_
  obtain ⟨z4, h4, hf⟩ := bd_i hf
  refine A_callV1 C (pc := 4) (A := [.int x1, .int x2]) (rest := [.ref (B + 47)]) k_X7_66 ky_X7_isThing kv_X7_isThing (m_X7_isThing l B D Y o  h4) (by decide) rfl rfl rfl rfl (Nat.le_of_ble_eq_true rfl) ⟨rfl, rfl, Nat.le_of_ble_eq_true rfl, Nat.le_of_ble_eq_true rfl⟩ ⟨Nat.zero_le _, Nat.zero_le _⟩ dX7_lower_4 ?_
  refine A_iconst C (pc := 7) ic_1 dX7_lower_7 ?_
  obtain ⟨z8, h8, hf⟩ := bd_i hf
  refine A_callV1 C (pc := 8) (A := [.int z4, .int 1]) (rest := []) k_X7_51 ky_X7_lets kv_X7_lets (m_X7_lets l B D Y o  h8) (by decide) rfl rfl rfl rfl (Nat.le_of_ble_eq_true rfl) ⟨rfl, rfl, Nat.le_of_ble_eq_true rfl, Nat.le_of_ble_eq_true rfl⟩ ⟨Nat.zero_le _, Nat.zero_le _⟩ dX7_lower_8 ?_
  refine A_if_eq C (pc := 11) 23 (by decide) dX7_lower_11 hf (fun _ hf => ?_) (fun _ hf => ?_)
  · refine A_iconst C (pc := 23) ic_0 dX7_lower_23 ?_
    exact R_iM C (pc := 24) hr hk rfl dX7_lower_24 hf
  · refine A_aload_n C (pc := 14) 0 rfl dX7_lower_14 ?_
    refine A_iload_n C (pc := 15) 1 rfl dX7_lower_15 ?_
    refine A_iload_n C (pc := 16) 2 rfl dX7_lower_16 ?_
    obtain ⟨z17, h17, hf⟩ := bd_i hf
    refine A_callV1 C (pc := 17) (A := [.int x1, .int x2]) (rest := []) k_X7_95 ky_X7_lowerOf kv_X7_lowerOf (m_X7_lowerOf l B D Y o  h17) (by decide) rfl rfl rfl rfl (Nat.le_of_ble_eq_true rfl) ⟨rfl, rfl, Nat.le_of_ble_eq_true rfl, Nat.le_of_ble_eq_true rfl⟩ ⟨Nat.zero_le _, Nat.zero_le _⟩ dX7_lower_17 ?_
    refine A_goto C (pc := 20) 24 (by decide) dX7_lower_20 ?_
    exact R_iM C (pc := 24) hr hk rfl dX7_lower_24 hf
set_option maxRecDepth 100000 in
theorem m_X7_upper (l : Launch) (B : Nat) (D : va_G) (Y : Nat → ClassId) (o : Ou) {M : Mem} {x1 : Int32} {x2 : Int32} {r : Int32 × Mem}  (hf : f_X7_upper M x1 x2 = some r) : MW l yX7_upper cX7_upper 3 (some .int) rm_X7_upper B D Y o [.ref (B + 47), .int x1, .int x2] M r.2 (some (.int r.1)) := by
  refine ofAt (L0 := [(0, .ref (B + 47)), (1, .int x1), (2, .int x2)]) (by decide +kernel) (Nat.le_of_ble_eq_true rfl) rfl (fun p e s m args below meth c C hr hk => ?_)
  dsimp only [f_X7_upper] at hf
  refine A_aload_n C (pc := 0) 0 rfl dX7_upper_0 ?_
  refine A_aload_n C (pc := 1) 0 rfl dX7_upper_1 ?_
  refine A_iload_n C (pc := 2) 1 rfl dX7_upper_2 ?_
  refine A_iload_n C (pc := 3) 2 rfl dX7_upper_3 ?_
  obtain ⟨z4, h4, hf⟩ := bd_i hf
  refine A_callV1 C (pc := 4) (A := [.int x1, .int x2]) (rest := [.ref (B + 47)]) k_X7_66 ky_X7_isThing kv_X7_isThing (m_X7_isThing l B D Y o  h4) (by decide) rfl rfl rfl rfl (Nat.le_of_ble_eq_true rfl) ⟨rfl, rfl, Nat.le_of_ble_eq_true rfl, Nat.le_of_ble_eq_true rfl⟩ ⟨Nat.zero_le _, Nat.zero_le _⟩ dX7_upper_4 ?_
  refine A_iconst C (pc := 7) ic_1 dX7_upper_7 ?_
  obtain ⟨z8, h8, hf⟩ := bd_i hf
  refine A_callV1 C (pc := 8) (A := [.int z4, .int 1]) (rest := []) k_X7_51 ky_X7_lets kv_X7_lets (m_X7_lets l B D Y o  h8) (by decide) rfl rfl rfl rfl (Nat.le_of_ble_eq_true rfl) ⟨rfl, rfl, Nat.le_of_ble_eq_true rfl, Nat.le_of_ble_eq_true rfl⟩ ⟨Nat.zero_le _, Nat.zero_le _⟩ dX7_upper_8 ?_
  refine A_if_eq C (pc := 11) 23 (by decide) dX7_upper_11 hf (fun _ hf => ?_) (fun _ hf => ?_)
  · refine A_iconst C (pc := 23) ic_0 dX7_upper_23 ?_
    exact R_iM C (pc := 24) hr hk rfl dX7_upper_24 hf
  · refine A_aload_n C (pc := 14) 0 rfl dX7_upper_14 ?_
    refine A_iload_n C (pc := 15) 1 rfl dX7_upper_15 ?_
    refine A_iload_n C (pc := 16) 2 rfl dX7_upper_16 ?_
    obtain ⟨z17, h17, hf⟩ := bd_i hf
    refine A_callV1 C (pc := 17) (A := [.int x1, .int x2]) (rest := []) k_X7_98 ky_X7_upperOf kv_X7_upperOf (m_X7_upperOf l B D Y o  h17) (by decide) rfl rfl rfl rfl (Nat.le_of_ble_eq_true rfl) ⟨rfl, rfl, Nat.le_of_ble_eq_true rfl, Nat.le_of_ble_eq_true rfl⟩ ⟨Nat.zero_le _, Nat.zero_le _⟩ dX7_upper_17 ?_
    refine A_goto C (pc := 20) 24 (by decide) dX7_upper_20 ?_
    exact R_iM C (pc := 24) hr hk rfl dX7_upper_24 hf
set_option maxRecDepth 100000 in
theorem w_X7_ends_L19 {M : Mem} {x1 : Int32} {x2 : Int32} {r : Int32 × Mem} (C : Cx p s m args c cX7_ends 6 RX7 B D Y) (hr : meth.sig.returnType = (some .int)) (hk : meth.locks = false)  : ∀ (n : Nat) (x3 : Int32) (x4 : Int32), f_X7_ends_L19 M x1 x2 n (x3, x4) = some r → At p l e rm_X7_ends s m args below meth c 6 0 0 (QQ below args s B D Y r.2 o (some (.int r.1))) B D Y o 19 M [(0, .ref (B + 47)), (1, .int x1), (2, .int x2), (3, .int x3), (4, .int x4)] [] := by
  intro n
  induction n with
  | zero => intro x3 x4 hf; exact nomatch (show (none : Option (Int32 × Mem)) = some r from hf)
  | succ n hk19 =>
    intro x3 x4 hf
    replace hf : g_X7_ends_L19 M x1 x2 (f_X7_ends_L19 M x1 x2 n) (x3, x4) = some r := hf
    dsimp only [g_X7_ends_L19] at hf
    refine A_iload C (pc := 19) 4 rfl dX7_ends_19 ?_
    refine A_aload_n C (pc := 21) 0 rfl dX7_ends_21 ?_
    refine A_g7_0 C (pc := 22) kf_X7_9 dX7_ends_22 ?_
    refine A_iload_n C (pc := 25) 1 rfl dX7_ends_25 ?_
    obtain ⟨c26, hf⟩ := chk_i hf
    refine A_iald C (pc := 26) (show IA 48 5 from ⟨rfl, rfl⟩) c26 dX7_ends_26 ?_
    refine A_icmp_ge C (pc := 27) 75 (by decide) dX7_ends_27 hf (fun _ hf => ?_) (fun _ hf => ?_)
    · refine A_iload_n C (pc := 75) 3 rfl dX7_ends_75 ?_
      exact R_iM C (pc := 76) hr hk rfl dX7_ends_76 hf
    · refine A_iload_n C (pc := 30) 2 rfl dX7_ends_30 ?_
      refine A_if_eq C (pc := 31) 44 (by decide) dX7_ends_31 hf (fun _ hf => ?_) (fun _ hf => ?_)
      · refine A_aload_n C (pc := 44) 0 rfl dX7_ends_44 ?_
        refine A_iload_n C (pc := 45) 1 rfl dX7_ends_45 ?_
        refine A_iload C (pc := 46) 4 rfl dX7_ends_46 ?_
        obtain ⟨z48, h48, hf⟩ := bd_i hf
        refine A_callV1 C (pc := 48) (A := [.int x1, .int x4]) (rest := []) k_X7_95 ky_X7_lowerOf kv_X7_lowerOf (m_X7_lowerOf l B D Y o  h48) (by decide) rfl rfl rfl rfl (Nat.le_of_ble_eq_true rfl) ⟨rfl, rfl, Nat.le_of_ble_eq_true rfl, Nat.le_of_ble_eq_true rfl⟩ ⟨Nat.zero_le _, Nat.zero_le _⟩ dX7_ends_48 ?_
        refine A_istore C (pc := 51) [(0, .ref (B + 47)), (1, .int x1), (2, .int x2), (3, .int x3), (4, .int x4), (5, .int z48)] (by decide) [1, 2, 3, 4, 5, 0] rfl dX7_ends_51 ?_
        refine A_iload_n C (pc := 53) 3 rfl dX7_ends_53 ?_
        refine A_iload C (pc := 54) 5 rfl dX7_ends_54 ?_
        refine A_if_ne C (pc := 56) 66 (by decide) dX7_ends_56 hf (fun _ hf => ?_) (fun _ hf => ?_)
        · refine A_iconst C (pc := 66) ic_0 dX7_ends_66 ?_
          refine A_iadd C (pc := 67) dX7_ends_67 ?_
          obtain ⟨v68, e68, hf⟩ := bd_i hf
          refine A_nmI e68 ?_
          refine A_istore_n C (pc := 68) [(0, .ref (B + 47)), (1, .int x1), (2, .int x2), (3, .int v68), (4, .int x4)] rfl (by decide) [1, 2, 3, 0, 4] rfl dX7_ends_68 ?_
          refine A_iinc C (pc := 69) (k0 := 4) [(0, .ref (B + 47)), (1, .int x1), (2, .int x2), (3, .int v68), (4, .int (x4 + 1))] rfl ic_1 (by decide) [1, 2, 3, 4, 0] rfl dX7_ends_69 ?_
          refine A_goto C (pc := 72) 19 (by decide) dX7_ends_72 ?_
          exact hk19 _ _ hf
        · refine A_iconst C (pc := 59) ic_1 dX7_ends_59 ?_
          refine A_iload C (pc := 60) 4 rfl dX7_ends_60 ?_
          refine A_ishl C (pc := 62) dX7_ends_62 ?_
          refine A_goto C (pc := 63) 67 (by decide) dX7_ends_63 ?_
          refine A_iadd C (pc := 67) dX7_ends_67 ?_
          obtain ⟨v68, e68, hf⟩ := bd_i hf
          refine A_nmI e68 ?_
          refine A_istore_n C (pc := 68) [(0, .ref (B + 47)), (1, .int x1), (2, .int x2), (3, .int v68), (4, .int x4)] rfl (by decide) [1, 2, 3, 0, 4] rfl dX7_ends_68 ?_
          refine A_iinc C (pc := 69) (k0 := 4) [(0, .ref (B + 47)), (1, .int x1), (2, .int x2), (3, .int v68), (4, .int (x4 + 1))] rfl ic_1 (by decide) [1, 2, 3, 4, 0] rfl dX7_ends_69 ?_
          refine A_goto C (pc := 72) 19 (by decide) dX7_ends_72 ?_
          exact hk19 _ _ hf
      · refine A_aload_n C (pc := 34) 0 rfl dX7_ends_34 ?_
        refine A_iload_n C (pc := 35) 1 rfl dX7_ends_35 ?_
        refine A_iload C (pc := 36) 4 rfl dX7_ends_36 ?_
        obtain ⟨z38, h38, hf⟩ := bd_i hf
        refine A_callV1 C (pc := 38) (A := [.int x1, .int x4]) (rest := []) k_X7_98 ky_X7_upperOf kv_X7_upperOf (m_X7_upperOf l B D Y o  h38) (by decide) rfl rfl rfl rfl (Nat.le_of_ble_eq_true rfl) ⟨rfl, rfl, Nat.le_of_ble_eq_true rfl, Nat.le_of_ble_eq_true rfl⟩ ⟨Nat.zero_le _, Nat.zero_le _⟩ dX7_ends_38 ?_
        refine A_goto C (pc := 41) 51 (by decide) dX7_ends_41 ?_
        refine A_istore C (pc := 51) [(0, .ref (B + 47)), (1, .int x1), (2, .int x2), (3, .int x3), (4, .int x4), (5, .int z38)] (by decide) [1, 2, 3, 4, 5, 0] rfl dX7_ends_51 ?_
        refine A_iload_n C (pc := 53) 3 rfl dX7_ends_53 ?_
        refine A_iload C (pc := 54) 5 rfl dX7_ends_54 ?_
        refine A_if_ne C (pc := 56) 66 (by decide) dX7_ends_56 hf (fun _ hf => ?_) (fun _ hf => ?_)
        · refine A_iconst C (pc := 66) ic_0 dX7_ends_66 ?_
          refine A_iadd C (pc := 67) dX7_ends_67 ?_
          obtain ⟨v68, e68, hf⟩ := bd_i hf
          refine A_nmI e68 ?_
          refine A_istore_n C (pc := 68) [(0, .ref (B + 47)), (1, .int x1), (2, .int x2), (3, .int v68), (4, .int x4)] rfl (by decide) [1, 2, 3, 0, 4] rfl dX7_ends_68 ?_
          refine A_iinc C (pc := 69) (k0 := 4) [(0, .ref (B + 47)), (1, .int x1), (2, .int x2), (3, .int v68), (4, .int (x4 + 1))] rfl ic_1 (by decide) [1, 2, 3, 4, 0] rfl dX7_ends_69 ?_
          refine A_goto C (pc := 72) 19 (by decide) dX7_ends_72 ?_
          exact hk19 _ _ hf
        · refine A_iconst C (pc := 59) ic_1 dX7_ends_59 ?_
          refine A_iload C (pc := 60) 4 rfl dX7_ends_60 ?_
          refine A_ishl C (pc := 62) dX7_ends_62 ?_
          refine A_goto C (pc := 63) 67 (by decide) dX7_ends_63 ?_
          refine A_iadd C (pc := 67) dX7_ends_67 ?_
          obtain ⟨v68, e68, hf⟩ := bd_i hf
          refine A_nmI e68 ?_
          refine A_istore_n C (pc := 68) [(0, .ref (B + 47)), (1, .int x1), (2, .int x2), (3, .int v68), (4, .int x4)] rfl (by decide) [1, 2, 3, 0, 4] rfl dX7_ends_68 ?_
          refine A_iinc C (pc := 69) (k0 := 4) [(0, .ref (B + 47)), (1, .int x1), (2, .int x2), (3, .int v68), (4, .int (x4 + 1))] rfl ic_1 (by decide) [1, 2, 3, 4, 0] rfl dX7_ends_69 ?_
          refine A_goto C (pc := 72) 19 (by decide) dX7_ends_72 ?_
          exact hk19 _ _ hf
set_option maxRecDepth 100000 in
theorem m_X7_ends (l : Launch) (B : Nat) (D : va_G) (Y : Nat → ClassId) (o : Ou) {M : Mem} {x1 : Int32} {x2 : Int32} {r : Int32 × Mem}  (hf : f_X7_ends M x1 x2 = some r) : MW l yX7_ends cX7_ends 6 (some .int) rm_X7_ends B D Y o [.ref (B + 47), .int x1, .int x2] M r.2 (some (.int r.1)) := by
  refine ofAt (L0 := [(0, .ref (B + 47)), (1, .int x1), (2, .int x2)]) (by decide +kernel) (Nat.le_of_ble_eq_true rfl) rfl (fun p e s m args below meth c C hr hk => ?_)
  dsimp only [f_X7_ends] at hf
  refine A_aload_n C (pc := 0) 0 rfl dX7_ends_0 ?_
  refine A_iload_n C (pc := 1) 1 rfl dX7_ends_1 ?_
  obtain ⟨z2, h2, hf⟩ := bd_i hf
  refine A_callS1 C (pc := 2) (A := [.int x1]) (rest := [.ref (B + 47)]) k_X7_43 ky_X7_isOrder ks_X7_isOrder (m_X7_isOrder l B D Y o  h2) rfl rfl (Nat.le_of_ble_eq_true rfl) ⟨rfl, rfl, Nat.le_of_ble_eq_true rfl, Nat.le_of_ble_eq_true rfl⟩ ⟨Nat.zero_le _, Nat.zero_le _⟩ dX7_ends_2 ?_
  refine A_iconst C (pc := 5) ic_1 dX7_ends_5 ?_
  obtain ⟨z6, h6, hf⟩ := bd_i hf
  refine A_callV1 C (pc := 6) (A := [.int z2, .int 1]) (rest := []) k_X7_51 ky_X7_lets kv_X7_lets (m_X7_lets l B D Y o  h6) (by decide) rfl rfl rfl rfl (Nat.le_of_ble_eq_true rfl) ⟨rfl, rfl, Nat.le_of_ble_eq_true rfl, Nat.le_of_ble_eq_true rfl⟩ ⟨Nat.zero_le _, Nat.zero_le _⟩ dX7_ends_6 ?_
  refine A_if_ne C (pc := 9) 14 (by decide) dX7_ends_9 hf (fun _ hf => ?_) (fun _ hf => ?_)
  · refine A_iconst C (pc := 14) ic_0 dX7_ends_14 ?_
    refine A_istore_n C (pc := 15) [(0, .ref (B + 47)), (1, .int x1), (2, .int x2), (3, .int 0)] rfl (by decide) [1, 2, 3, 0] rfl dX7_ends_15 ?_
    refine A_iconst C (pc := 16) ic_0 dX7_ends_16 ?_
    refine A_istore C (pc := 17) [(0, .ref (B + 47)), (1, .int x1), (2, .int x2), (3, .int 0), (4, .int 0)] (by decide) [1, 2, 3, 4, 0] rfl dX7_ends_17 ?_
    exact w_X7_ends_L19 C hr hk FU _ _  hf
  · refine A_iconst C (pc := 12) ic_0 dX7_ends_12 ?_
    exact R_iM C (pc := 13) hr hk rfl dX7_ends_13 hf
set_option maxRecDepth 100000 in
theorem m_X7_value (l : Launch) (B : Nat) (D : va_G) (Y : Nat → ClassId) (o : Ou) {M : Mem} {x1 : Int32} {x2 : Int32} {r : Int32 × Mem}  (hf : f_X7_value M x1 x2 = some r) : MW l yX7_value cX7_value 3 (some .int) rm_X7_value B D Y o [.ref (B + 47), .int x1, .int x2] M r.2 (some (.int r.1)) := by
  refine ofAt (L0 := [(0, .ref (B + 47)), (1, .int x1), (2, .int x2)]) (by decide +kernel) (Nat.le_of_ble_eq_true rfl) rfl (fun p e s m args below meth c C hr hk => ?_)
  dsimp only [f_X7_value] at hf
  refine A_aload_n C (pc := 0) 0 rfl dX7_value_0 ?_
  refine A_aload_n C (pc := 1) 0 rfl dX7_value_1 ?_
  refine A_iload_n C (pc := 2) 1 rfl dX7_value_2 ?_
  refine A_iload_n C (pc := 3) 2 rfl dX7_value_3 ?_
  obtain ⟨z4, h4, hf⟩ := bd_i hf
  refine A_callV1 C (pc := 4) (A := [.int x1, .int x2]) (rest := [.ref (B + 47)]) k_X7_66 ky_X7_isThing kv_X7_isThing (m_X7_isThing l B D Y o  h4) (by decide) rfl rfl rfl rfl (Nat.le_of_ble_eq_true rfl) ⟨rfl, rfl, Nat.le_of_ble_eq_true rfl, Nat.le_of_ble_eq_true rfl⟩ ⟨Nat.zero_le _, Nat.zero_le _⟩ dX7_value_4 ?_
  refine A_iconst C (pc := 7) ic_1 dX7_value_7 ?_
  obtain ⟨z8, h8, hf⟩ := bd_i hf
  refine A_callV1 C (pc := 8) (A := [.int z4, .int 1]) (rest := []) k_X7_51 ky_X7_lets kv_X7_lets (m_X7_lets l B D Y o  h8) (by decide) rfl rfl rfl rfl (Nat.le_of_ble_eq_true rfl) ⟨rfl, rfl, Nat.le_of_ble_eq_true rfl, Nat.le_of_ble_eq_true rfl⟩ ⟨Nat.zero_le _, Nat.zero_le _⟩ dX7_value_8 ?_
  refine A_if_eq C (pc := 11) 25 (by decide) dX7_value_11 hf (fun _ hf => ?_) (fun _ hf => ?_)
  · refine A_iconst C (pc := 25) ic_0 dX7_value_25 ?_
    exact R_iM C (pc := 26) hr hk rfl dX7_value_26 hf
  · refine A_aload_n C (pc := 14) 0 rfl dX7_value_14 ?_
    refine A_g7_1 C (pc := 15) kf_X7_15 dX7_value_15 ?_
    refine A_iload_n C (pc := 18) 1 rfl dX7_value_18 ?_
    obtain ⟨c19, hf⟩ := chk_i hf
    refine A_aV C (pc := 19) c19 dX7_value_19 ?_
    refine A_iload_n C (pc := 20) 2 rfl dX7_value_20 ?_
    obtain ⟨c21, hf⟩ := chk_i hf
    refine A_iald C (pc := 21) (iVal (inb_lt c19)) c21 dX7_value_21 ?_
    refine A_goto C (pc := 22) 26 (by decide) dX7_value_22 ?_
    exact R_iM C (pc := 26) hr hk rfl dX7_value_26 hf
set_option maxRecDepth 100000 in
theorem w_X7_isSame_L67 {M : Mem} {x1 : Int32} {x2 : Int32} {x4 : Int32} {r : Int32 × Mem} (C : Cx p s m args c cX7_isSame 6 RX7 B D Y) (hr : meth.sig.returnType = (some .boolean)) (hk : meth.locks = false)  {k53 : (Int32 × Int32) → Option (Int32 × Mem)} (hk53 : ∀ (x3 : Int32) (x4 : Int32), k53 (x3, x4) = some r → At p l e rm_X7_isSame s m args below meth c 6 0 0 (QQ below args s B D Y r.2 o (some (.int r.1))) B D Y o 53 M [(0, .ref (B + 47)), (1, .int x1), (2, .int x2), (3, .int x3), (4, .int x4)] []) : ∀ (n : Nat) (x3 : Int32) (x5 : Int32), f_X7_isSame_L67 M x1 x2 x4 k53 n (x3, x5) = some r → At p l e rm_X7_isSame s m args below meth c 6 0 0 (QQ below args s B D Y r.2 o (some (.int r.1))) B D Y o 67 M [(0, .ref (B + 47)), (1, .int x1), (2, .int x2), (3, .int x3), (4, .int x4), (5, .int x5)] [] := by
  intro n
  induction n with
  | zero => intro x3 x5 hf; exact nomatch (show (none : Option (Int32 × Mem)) = some r from hf)
  | succ n hk67 =>
    intro x3 x5 hf
    replace hf : g_X7_isSame_L67 M x1 x2 x4 k53 (f_X7_isSame_L67 M x1 x2 x4 k53 n) (x3, x5) = some r := hf
    dsimp only [g_X7_isSame_L67] at hf
    refine A_iload C (pc := 67) 5 rfl dX7_isSame_67 ?_
    refine A_aload_n C (pc := 69) 0 rfl dX7_isSame_69 ?_
    refine A_g7_0 C (pc := 70) kf_X7_9 dX7_isSame_70 ?_
    refine A_iload_n C (pc := 73) 1 rfl dX7_isSame_73 ?_
    obtain ⟨c74, hf⟩ := chk_i hf
    refine A_iald C (pc := 74) (show IA 48 5 from ⟨rfl, rfl⟩) c74 dX7_isSame_74 ?_
    refine A_icmp_ge C (pc := 75) 121 (by decide) dX7_isSame_75 hf (fun _ hf => ?_) (fun _ hf => ?_)
    · refine A_iinc C (pc := 121) (k0 := 4) [(0, .ref (B + 47)), (1, .int x1), (2, .int x2), (3, .int x3), (4, .int (x4 + 1))] rfl ic_1 (by decide) [1, 2, 3, 4, 0] rfl dX7_isSame_121 ?_
      refine A_goto C (pc := 124) 53 (by decide) dX7_isSame_124 ?_
      exact hk53 _ _ hf
    · refine A_iload_n C (pc := 78) 3 rfl dX7_isSame_78 ?_
      refine A_if_eq C (pc := 79) 113 (by decide) dX7_isSame_79 hf (fun _ hf => ?_) (fun _ hf => ?_)
      · refine A_iconst C (pc := 113) ic_0 dX7_isSame_113 ?_
        refine A_istore_n C (pc := 114) [(0, .ref (B + 47)), (1, .int x1), (2, .int x2), (3, .int 0), (4, .int x4), (5, .int x5)] rfl (by decide) [1, 2, 3, 0, 4, 5] rfl dX7_isSame_114 ?_
        refine A_iinc C (pc := 115) (k0 := 5) [(0, .ref (B + 47)), (1, .int x1), (2, .int x2), (3, .int 0), (4, .int x4), (5, .int (x5 + 1))] rfl ic_1 (by decide) [1, 2, 3, 4, 5, 0] rfl dX7_isSame_115 ?_
        refine A_goto C (pc := 118) 67 (by decide) dX7_isSame_118 ?_
        exact hk67 _ _ hf
      · refine A_aload_n C (pc := 82) 0 rfl dX7_isSame_82 ?_
        refine A_g7_2 C (pc := 83) kf_X7_20 dX7_isSame_83 ?_
        refine A_iload_n C (pc := 86) 1 rfl dX7_isSame_86 ?_
        obtain ⟨c87, hf⟩ := chk_i hf
        refine A_aB C (pc := 87) c87 dX7_isSame_87 ?_
        refine A_iload C (pc := 88) 4 rfl dX7_isSame_88 ?_
        obtain ⟨c90, hf⟩ := chk_i hf
        refine A_aR C (pc := 90) (kBel (inb_lt c87)) c90 dX7_isSame_90 ?_
        refine A_iload C (pc := 91) 5 rfl dX7_isSame_91 ?_
        obtain ⟨c93, hf⟩ := chk_i hf
        refine A_zald C (pc := 93) (kRow (kBel (inb_lt c87)) (inb_lt c90)) c93 dX7_isSame_93 ?_
        refine A_aload_n C (pc := 94) 0 rfl dX7_isSame_94 ?_
        refine A_g7_2 C (pc := 95) kf_X7_20 dX7_isSame_95 ?_
        refine A_iload_n C (pc := 98) 2 rfl dX7_isSame_98 ?_
        obtain ⟨c99, hf⟩ := chk_i hf
        refine A_aB C (pc := 99) c99 dX7_isSame_99 ?_
        refine A_iload C (pc := 100) 4 rfl dX7_isSame_100 ?_
        obtain ⟨c102, hf⟩ := chk_i hf
        refine A_aR C (pc := 102) (kBel (inb_lt c99)) c102 dX7_isSame_102 ?_
        refine A_iload C (pc := 103) 5 rfl dX7_isSame_103 ?_
        obtain ⟨c105, hf⟩ := chk_i hf
        refine A_zald C (pc := 105) (kRow (kBel (inb_lt c99)) (inb_lt c102)) c105 dX7_isSame_105 ?_
        refine A_icmp_ne C (pc := 106) 113 (by decide) dX7_isSame_106 hf (fun _ hf => ?_) (fun _ hf => ?_)
        · refine A_iconst C (pc := 113) ic_0 dX7_isSame_113 ?_
          refine A_istore_n C (pc := 114) [(0, .ref (B + 47)), (1, .int x1), (2, .int x2), (3, .int 0), (4, .int x4), (5, .int x5)] rfl (by decide) [1, 2, 3, 0, 4, 5] rfl dX7_isSame_114 ?_
          refine A_iinc C (pc := 115) (k0 := 5) [(0, .ref (B + 47)), (1, .int x1), (2, .int x2), (3, .int 0), (4, .int x4), (5, .int (x5 + 1))] rfl ic_1 (by decide) [1, 2, 3, 4, 5, 0] rfl dX7_isSame_115 ?_
          refine A_goto C (pc := 118) 67 (by decide) dX7_isSame_118 ?_
          exact hk67 _ _ hf
        · refine A_iconst C (pc := 109) ic_1 dX7_isSame_109 ?_
          refine A_goto C (pc := 110) 114 (by decide) dX7_isSame_110 ?_
          refine A_istore_n C (pc := 114) [(0, .ref (B + 47)), (1, .int x1), (2, .int x2), (3, .int 1), (4, .int x4), (5, .int x5)] rfl (by decide) [1, 2, 3, 0, 4, 5] rfl dX7_isSame_114 ?_
          refine A_iinc C (pc := 115) (k0 := 5) [(0, .ref (B + 47)), (1, .int x1), (2, .int x2), (3, .int 1), (4, .int x4), (5, .int (x5 + 1))] rfl ic_1 (by decide) [1, 2, 3, 4, 5, 0] rfl dX7_isSame_115 ?_
          refine A_goto C (pc := 118) 67 (by decide) dX7_isSame_118 ?_
          exact hk67 _ _ hf
set_option maxRecDepth 100000 in
theorem w_X7_isSame_L53 {M : Mem} {x1 : Int32} {x2 : Int32} {r : Int32 × Mem} (C : Cx p s m args c cX7_isSame 6 RX7 B D Y) (hr : meth.sig.returnType = (some .boolean)) (hk : meth.locks = false)  : ∀ (n : Nat) (x3 : Int32) (x4 : Int32), f_X7_isSame_L53 M x1 x2 n (x3, x4) = some r → At p l e rm_X7_isSame s m args below meth c 6 0 0 (QQ below args s B D Y r.2 o (some (.int r.1))) B D Y o 53 M [(0, .ref (B + 47)), (1, .int x1), (2, .int x2), (3, .int x3), (4, .int x4)] [] := by
  intro n
  induction n with
  | zero => intro x3 x4 hf; exact nomatch (show (none : Option (Int32 × Mem)) = some r from hf)
  | succ n hk53 =>
    intro x3 x4 hf
    replace hf : g_X7_isSame_L53 M x1 x2 (f_X7_isSame_L53 M x1 x2 n) (x3, x4) = some r := hf
    dsimp only [g_X7_isSame_L53] at hf
    refine A_iload C (pc := 53) 4 rfl dX7_isSame_53 ?_
    refine A_aload_n C (pc := 55) 0 rfl dX7_isSame_55 ?_
    refine A_g7_0 C (pc := 56) kf_X7_9 dX7_isSame_56 ?_
    refine A_iload_n C (pc := 59) 1 rfl dX7_isSame_59 ?_
    obtain ⟨c60, hf⟩ := chk_i hf
    refine A_iald C (pc := 60) (show IA 48 5 from ⟨rfl, rfl⟩) c60 dX7_isSame_60 ?_
    refine A_icmp_ge C (pc := 61) 127 (by decide) dX7_isSame_61 hf (fun _ hf => ?_) (fun _ hf => ?_)
    · refine A_iload_n C (pc := 127) 3 rfl dX7_isSame_127 ?_
      obtain ⟨c128, hf⟩ := chk_i hf
      exact R_iM C (pc := 128) hr hk (isb_nz c128) dX7_isSame_128 hf
    · refine A_iconst C (pc := 64) ic_0 dX7_isSame_64 ?_
      refine A_istore C (pc := 65) [(0, .ref (B + 47)), (1, .int x1), (2, .int x2), (3, .int x3), (4, .int x4), (5, .int 0)] (by decide) [1, 2, 3, 4, 5, 0] rfl dX7_isSame_65 ?_
      exact w_X7_isSame_L67 C hr hk hk53 FU _ _  hf
set_option maxRecDepth 100000 in
theorem w_X7_isSame_L20 {M : Mem} {x1 : Int32} {x2 : Int32} {y0 : Int32} {r : Int32 × Mem} (C : Cx p s m args c cX7_isSame 6 RX7 B D Y) (hr : meth.sig.returnType = (some .boolean)) (hk : meth.locks = false)  (hf : f_X7_isSame_L20 M x1 x2 y0 = some r) : At p l e rm_X7_isSame s m args below meth c 6 0 0 (QQ below args s B D Y r.2 o (some (.int r.1))) B D Y o 20 M [(0, .ref (B + 47)), (1, .int x1), (2, .int x2)] [.int y0, .ref (B + 47)] := by
  dsimp only [f_X7_isSame_L20] at hf
  refine A_iconst C (pc := 20) ic_1 dX7_isSame_20 ?_
  obtain ⟨z21, h21, hf⟩ := bd_i hf
  refine A_callV1 C (pc := 21) (A := [.int y0, .int 1]) (rest := []) k_X7_51 ky_X7_lets kv_X7_lets (m_X7_lets l B D Y o  h21) (by decide) rfl rfl rfl rfl (Nat.le_of_ble_eq_true rfl) ⟨rfl, rfl, Nat.le_of_ble_eq_true rfl, Nat.le_of_ble_eq_true rfl⟩ ⟨Nat.zero_le _, Nat.zero_le _⟩ dX7_isSame_21 ?_
  refine A_if_ne C (pc := 24) 29 (by decide) dX7_isSame_24 hf (fun _ hf => ?_) (fun _ hf => ?_)
  · refine A_aload_n C (pc := 29) 0 rfl dX7_isSame_29 ?_
    refine A_g7_0 C (pc := 30) kf_X7_9 dX7_isSame_30 ?_
    refine A_iload_n C (pc := 33) 1 rfl dX7_isSame_33 ?_
    obtain ⟨c34, hf⟩ := chk_i hf
    refine A_iald C (pc := 34) (show IA 48 5 from ⟨rfl, rfl⟩) c34 dX7_isSame_34 ?_
    refine A_aload_n C (pc := 35) 0 rfl dX7_isSame_35 ?_
    refine A_g7_0 C (pc := 36) kf_X7_9 dX7_isSame_36 ?_
    refine A_iload_n C (pc := 39) 2 rfl dX7_isSame_39 ?_
    obtain ⟨c40, hf⟩ := chk_i hf
    refine A_iald C (pc := 40) (show IA 48 5 from ⟨rfl, rfl⟩) c40 dX7_isSame_40 ?_
    refine A_icmp_ne C (pc := 41) 48 (by decide) dX7_isSame_41 hf (fun _ hf => ?_) (fun _ hf => ?_)
    · refine A_iconst C (pc := 48) ic_0 dX7_isSame_48 ?_
      refine A_istore_n C (pc := 49) [(0, .ref (B + 47)), (1, .int x1), (2, .int x2), (3, .int 0)] rfl (by decide) [1, 2, 3, 0] rfl dX7_isSame_49 ?_
      refine A_iconst C (pc := 50) ic_0 dX7_isSame_50 ?_
      refine A_istore C (pc := 51) [(0, .ref (B + 47)), (1, .int x1), (2, .int x2), (3, .int 0), (4, .int 0)] (by decide) [1, 2, 3, 4, 0] rfl dX7_isSame_51 ?_
      exact w_X7_isSame_L53 C hr hk FU _ _  hf
    · refine A_iconst C (pc := 44) ic_1 dX7_isSame_44 ?_
      refine A_goto C (pc := 45) 49 (by decide) dX7_isSame_45 ?_
      refine A_istore_n C (pc := 49) [(0, .ref (B + 47)), (1, .int x1), (2, .int x2), (3, .int 1)] rfl (by decide) [1, 2, 3, 0] rfl dX7_isSame_49 ?_
      refine A_iconst C (pc := 50) ic_0 dX7_isSame_50 ?_
      refine A_istore C (pc := 51) [(0, .ref (B + 47)), (1, .int x1), (2, .int x2), (3, .int 1), (4, .int 0)] (by decide) [1, 2, 3, 4, 0] rfl dX7_isSame_51 ?_
      exact w_X7_isSame_L53 C hr hk FU _ _  hf
  · refine A_iconst C (pc := 27) ic_0 dX7_isSame_27 ?_
    exact R_iM C (pc := 28) hr hk nz_0 dX7_isSame_28 hf
set_option maxRecDepth 100000 in
theorem w_X7_isSame_L19 {M : Mem} {x1 : Int32} {x2 : Int32} {r : Int32 × Mem} (C : Cx p s m args c cX7_isSame 6 RX7 B D Y) (hr : meth.sig.returnType = (some .boolean)) (hk : meth.locks = false)  (hf : f_X7_isSame_L19 M x1 x2 = some r) : At p l e rm_X7_isSame s m args below meth c 6 0 0 (QQ below args s B D Y r.2 o (some (.int r.1))) B D Y o 19 M [(0, .ref (B + 47)), (1, .int x1), (2, .int x2)] [.ref (B + 47)] := by
  dsimp only [f_X7_isSame_L19] at hf
  refine A_iconst C (pc := 19) ic_0 dX7_isSame_19 ?_
  exact w_X7_isSame_L20 C hr hk hf
set_option maxRecDepth 100000 in
theorem m_X7_isSame (l : Launch) (B : Nat) (D : va_G) (Y : Nat → ClassId) (o : Ou) {M : Mem} {x1 : Int32} {x2 : Int32} {r : Int32 × Mem}  (hf : f_X7_isSame M x1 x2 = some r) : MW l yX7_isSame cX7_isSame 6 (some .boolean) rm_X7_isSame B D Y o [.ref (B + 47), .int x1, .int x2] M r.2 (some (.int r.1)) := by
  refine ofAt (L0 := [(0, .ref (B + 47)), (1, .int x1), (2, .int x2)]) (by decide +kernel) (Nat.le_of_ble_eq_true rfl) rfl (fun p e s m args below meth c C hr hk => ?_)
  dsimp only [f_X7_isSame] at hf
  refine A_aload_n C (pc := 0) 0 rfl dX7_isSame_0 ?_
  refine A_iload_n C (pc := 1) 1 rfl dX7_isSame_1 ?_
  obtain ⟨z2, h2, hf⟩ := bd_i hf
  refine A_callS1 C (pc := 2) (A := [.int x1]) (rest := [.ref (B + 47)]) k_X7_43 ky_X7_isOrder ks_X7_isOrder (m_X7_isOrder l B D Y o  h2) rfl rfl (Nat.le_of_ble_eq_true rfl) ⟨rfl, rfl, Nat.le_of_ble_eq_true rfl, Nat.le_of_ble_eq_true rfl⟩ ⟨Nat.zero_le _, Nat.zero_le _⟩ dX7_isSame_2 ?_
  refine A_if_eq C (pc := 5) 19 (by decide) dX7_isSame_5 hf (fun _ hf => ?_) (fun _ hf => ?_)
  · exact w_X7_isSame_L19 C hr hk hf
  · refine A_iload_n C (pc := 8) 2 rfl dX7_isSame_8 ?_
    obtain ⟨z9, h9, hf⟩ := bd_i hf
    refine A_callS1 C (pc := 9) (A := [.int x2]) (rest := [.ref (B + 47)]) k_X7_43 ky_X7_isOrder ks_X7_isOrder (m_X7_isOrder l B D Y o  h9) rfl rfl (Nat.le_of_ble_eq_true rfl) ⟨rfl, rfl, Nat.le_of_ble_eq_true rfl, Nat.le_of_ble_eq_true rfl⟩ ⟨Nat.zero_le _, Nat.zero_le _⟩ dX7_isSame_9 ?_
    refine A_if_eq C (pc := 12) 19 (by decide) dX7_isSame_12 hf (fun _ hf => ?_) (fun _ hf => ?_)
    · exact w_X7_isSame_L19 C hr hk hf
    · refine A_iconst C (pc := 15) ic_1 dX7_isSame_15 ?_
      refine A_goto C (pc := 16) 20 (by decide) dX7_isSame_16 ?_
      exact w_X7_isSame_L20 C hr hk hf
set_option maxRecDepth 100000 in
theorem w_X7_isAll_L50 {M : Mem} {x1 : Int32} {x2 : Int32} {x3 : Int32} {x4 : Int32} {x5 : Int32} {x6 : Int32} {y0 : Int32} {r : Int32} (C : Cx p s m args c cX7_isAll 8 RX7 B D Y) (hr : meth.sig.returnType = (some .boolean)) (hk : meth.locks = false)  {k6 : (Int32 × Int32) → Option Int32} (hk6 : ∀ (x4 : Int32) (x5 : Int32), k6 (x4, x5) = some r → At p l e rm_X7_isAll s m args below meth c 8 0 0 (QQ below args s B D Y M o (some (.int r))) B D Y o 6 M [(0, .ref (B + 47)), (1, .int x1), (2, .int x2), (3, .int x3), (4, .int x4), (5, .int x5)] []) {k20 : (Int32 × Int32) → Option Int32} (hk20 : ∀ (x4 : Int32) (x6 : Int32), k20 (x4, x6) = some r → At p l e rm_X7_isAll s m args below meth c 8 0 0 (QQ below args s B D Y M o (some (.int r))) B D Y o 20 M [(0, .ref (B + 47)), (1, .int x1), (2, .int x2), (3, .int x3), (4, .int x4), (5, .int x5), (6, .int x6)] []) (hf : f_X7_isAll_L50 M x1 x2 x3 x4 x5 x6 y0 k6 k20 = some r) : At p l e rm_X7_isAll s m args below meth c 8 0 0 (QQ below args s B D Y M o (some (.int r))) B D Y o 50 M [(0, .ref (B + 47)), (1, .int x1), (2, .int x2), (3, .int x3), (4, .int x4), (5, .int x5), (6, .int x6)] [.int y0] := by
  dsimp only [f_X7_isAll_L50] at hf
  refine A_istore C (pc := 50) [(0, .ref (B + 47)), (1, .int x1), (2, .int x2), (3, .int x3), (4, .int x4), (5, .int x5), (6, .int x6), (7, .int y0)] (by decide) [1, 2, 3, 4, 5, 6, 7, 0] rfl dX7_isAll_50 ?_
  refine A_iload C (pc := 52) 4 rfl dX7_isAll_52 ?_
  refine A_if_eq C (pc := 54) 105 (by decide) dX7_isAll_54 hf (fun _ hf => ?_) (fun _ hf => ?_)
  · refine A_iconst C (pc := 105) ic_0 dX7_isAll_105 ?_
    refine A_istore C (pc := 106) [(0, .ref (B + 47)), (1, .int x1), (2, .int x2), (3, .int x3), (4, .int 0), (5, .int x5), (6, .int x6)] (by decide) [1, 2, 3, 4, 0, 5, 6] rfl dX7_isAll_106 ?_
    refine A_iinc C (pc := 108) (k0 := 6) [(0, .ref (B + 47)), (1, .int x1), (2, .int x2), (3, .int x3), (4, .int 0), (5, .int x5), (6, .int (x6 + 1))] rfl ic_1 (by decide) [1, 2, 3, 4, 5, 6, 0] rfl dX7_isAll_108 ?_
    refine A_goto C (pc := 111) 20 (by decide) dX7_isAll_111 ?_
    exact hk20 _ _ hf
  · refine A_iload C (pc := 57) 7 rfl dX7_isAll_57 ?_
    refine A_if_eq C (pc := 59) 101 (by decide) dX7_isAll_59 hf (fun _ hf => ?_) (fun _ hf => ?_)
    · refine A_iconst C (pc := 101) ic_1 dX7_isAll_101 ?_
      refine A_goto C (pc := 102) 106 (by decide) dX7_isAll_102 ?_
      refine A_istore C (pc := 106) [(0, .ref (B + 47)), (1, .int x1), (2, .int x2), (3, .int x3), (4, .int 1), (5, .int x5), (6, .int x6)] (by decide) [1, 2, 3, 4, 0, 5, 6] rfl dX7_isAll_106 ?_
      refine A_iinc C (pc := 108) (k0 := 6) [(0, .ref (B + 47)), (1, .int x1), (2, .int x2), (3, .int x3), (4, .int 1), (5, .int x5), (6, .int (x6 + 1))] rfl ic_1 (by decide) [1, 2, 3, 4, 5, 6, 0] rfl dX7_isAll_108 ?_
      refine A_goto C (pc := 111) 20 (by decide) dX7_isAll_111 ?_
      exact hk20 _ _ hf
    · refine A_aload_n C (pc := 62) 0 rfl dX7_isAll_62 ?_
      refine A_g7_2 C (pc := 63) kf_X7_20 dX7_isAll_63 ?_
      refine A_iload_n C (pc := 66) 1 rfl dX7_isAll_66 ?_
      obtain ⟨c67, hf⟩ := chk_i hf
      refine A_aB C (pc := 67) c67 dX7_isAll_67 ?_
      refine A_iload C (pc := 68) 5 rfl dX7_isAll_68 ?_
      obtain ⟨c70, hf⟩ := chk_i hf
      refine A_aR C (pc := 70) (kBel (inb_lt c67)) c70 dX7_isAll_70 ?_
      refine A_iload C (pc := 71) 6 rfl dX7_isAll_71 ?_
      obtain ⟨c73, hf⟩ := chk_i hf
      refine A_zald C (pc := 73) (kRow (kBel (inb_lt c67)) (inb_lt c70)) c73 dX7_isAll_73 ?_
      refine A_if_ne C (pc := 74) 92 (by decide) dX7_isAll_74 hf (fun _ hf => ?_) (fun _ hf => ?_)
      · refine A_iconst C (pc := 92) ic_1 dX7_isAll_92 ?_
        refine A_goto C (pc := 93) 97 (by decide) dX7_isAll_93 ?_
        refine A_iload_n C (pc := 97) 3 rfl dX7_isAll_97 ?_
        refine A_icmp_ne C (pc := 98) 105 (by decide) dX7_isAll_98 hf (fun _ hf => ?_) (fun _ hf => ?_)
        · refine A_iconst C (pc := 105) ic_0 dX7_isAll_105 ?_
          refine A_istore C (pc := 106) [(0, .ref (B + 47)), (1, .int x1), (2, .int x2), (3, .int x3), (4, .int 0), (5, .int x5), (6, .int x6)] (by decide) [1, 2, 3, 4, 0, 5, 6] rfl dX7_isAll_106 ?_
          refine A_iinc C (pc := 108) (k0 := 6) [(0, .ref (B + 47)), (1, .int x1), (2, .int x2), (3, .int x3), (4, .int 0), (5, .int x5), (6, .int (x6 + 1))] rfl ic_1 (by decide) [1, 2, 3, 4, 5, 6, 0] rfl dX7_isAll_108 ?_
          refine A_goto C (pc := 111) 20 (by decide) dX7_isAll_111 ?_
          exact hk20 _ _ hf
        · refine A_iconst C (pc := 101) ic_1 dX7_isAll_101 ?_
          refine A_goto C (pc := 102) 106 (by decide) dX7_isAll_102 ?_
          refine A_istore C (pc := 106) [(0, .ref (B + 47)), (1, .int x1), (2, .int x2), (3, .int x3), (4, .int 1), (5, .int x5), (6, .int x6)] (by decide) [1, 2, 3, 4, 0, 5, 6] rfl dX7_isAll_106 ?_
          refine A_iinc C (pc := 108) (k0 := 6) [(0, .ref (B + 47)), (1, .int x1), (2, .int x2), (3, .int x3), (4, .int 1), (5, .int x5), (6, .int (x6 + 1))] rfl ic_1 (by decide) [1, 2, 3, 4, 5, 6, 0] rfl dX7_isAll_108 ?_
          refine A_goto C (pc := 111) 20 (by decide) dX7_isAll_111 ?_
          exact hk20 _ _ hf
      · refine A_aload_n C (pc := 77) 0 rfl dX7_isAll_77 ?_
        refine A_g7_2 C (pc := 78) kf_X7_20 dX7_isAll_78 ?_
        refine A_iload_n C (pc := 81) 1 rfl dX7_isAll_81 ?_
        obtain ⟨c82, hf⟩ := chk_i hf
        refine A_aB C (pc := 82) c82 dX7_isAll_82 ?_
        refine A_iload C (pc := 83) 6 rfl dX7_isAll_83 ?_
        obtain ⟨c85, hf⟩ := chk_i hf
        refine A_aR C (pc := 85) (kBel (inb_lt c82)) c85 dX7_isAll_85 ?_
        refine A_iload C (pc := 86) 5 rfl dX7_isAll_86 ?_
        obtain ⟨c88, hf⟩ := chk_i hf
        refine A_zald C (pc := 88) (kRow (kBel (inb_lt c82)) (inb_lt c85)) c88 dX7_isAll_88 ?_
        refine A_if_eq C (pc := 89) 96 (by decide) dX7_isAll_89 hf (fun _ hf => ?_) (fun _ hf => ?_)
        · refine A_iconst C (pc := 96) ic_0 dX7_isAll_96 ?_
          refine A_iload_n C (pc := 97) 3 rfl dX7_isAll_97 ?_
          refine A_icmp_ne C (pc := 98) 105 (by decide) dX7_isAll_98 hf (fun _ hf => ?_) (fun _ hf => ?_)
          · refine A_iconst C (pc := 105) ic_0 dX7_isAll_105 ?_
            refine A_istore C (pc := 106) [(0, .ref (B + 47)), (1, .int x1), (2, .int x2), (3, .int x3), (4, .int 0), (5, .int x5), (6, .int x6)] (by decide) [1, 2, 3, 4, 0, 5, 6] rfl dX7_isAll_106 ?_
            refine A_iinc C (pc := 108) (k0 := 6) [(0, .ref (B + 47)), (1, .int x1), (2, .int x2), (3, .int x3), (4, .int 0), (5, .int x5), (6, .int (x6 + 1))] rfl ic_1 (by decide) [1, 2, 3, 4, 5, 6, 0] rfl dX7_isAll_108 ?_
            refine A_goto C (pc := 111) 20 (by decide) dX7_isAll_111 ?_
            exact hk20 _ _ hf
          · refine A_iconst C (pc := 101) ic_1 dX7_isAll_101 ?_
            refine A_goto C (pc := 102) 106 (by decide) dX7_isAll_102 ?_
            refine A_istore C (pc := 106) [(0, .ref (B + 47)), (1, .int x1), (2, .int x2), (3, .int x3), (4, .int 1), (5, .int x5), (6, .int x6)] (by decide) [1, 2, 3, 4, 0, 5, 6] rfl dX7_isAll_106 ?_
            refine A_iinc C (pc := 108) (k0 := 6) [(0, .ref (B + 47)), (1, .int x1), (2, .int x2), (3, .int x3), (4, .int 1), (5, .int x5), (6, .int (x6 + 1))] rfl ic_1 (by decide) [1, 2, 3, 4, 5, 6, 0] rfl dX7_isAll_108 ?_
            refine A_goto C (pc := 111) 20 (by decide) dX7_isAll_111 ?_
            exact hk20 _ _ hf
        · refine A_iconst C (pc := 92) ic_1 dX7_isAll_92 ?_
          refine A_goto C (pc := 93) 97 (by decide) dX7_isAll_93 ?_
          refine A_iload_n C (pc := 97) 3 rfl dX7_isAll_97 ?_
          refine A_icmp_ne C (pc := 98) 105 (by decide) dX7_isAll_98 hf (fun _ hf => ?_) (fun _ hf => ?_)
          · refine A_iconst C (pc := 105) ic_0 dX7_isAll_105 ?_
            refine A_istore C (pc := 106) [(0, .ref (B + 47)), (1, .int x1), (2, .int x2), (3, .int x3), (4, .int 0), (5, .int x5), (6, .int x6)] (by decide) [1, 2, 3, 4, 0, 5, 6] rfl dX7_isAll_106 ?_
            refine A_iinc C (pc := 108) (k0 := 6) [(0, .ref (B + 47)), (1, .int x1), (2, .int x2), (3, .int x3), (4, .int 0), (5, .int x5), (6, .int (x6 + 1))] rfl ic_1 (by decide) [1, 2, 3, 4, 5, 6, 0] rfl dX7_isAll_108 ?_
            refine A_goto C (pc := 111) 20 (by decide) dX7_isAll_111 ?_
            exact hk20 _ _ hf
          · refine A_iconst C (pc := 101) ic_1 dX7_isAll_101 ?_
            refine A_goto C (pc := 102) 106 (by decide) dX7_isAll_102 ?_
            refine A_istore C (pc := 106) [(0, .ref (B + 47)), (1, .int x1), (2, .int x2), (3, .int x3), (4, .int 1), (5, .int x5), (6, .int x6)] (by decide) [1, 2, 3, 4, 0, 5, 6] rfl dX7_isAll_106 ?_
            refine A_iinc C (pc := 108) (k0 := 6) [(0, .ref (B + 47)), (1, .int x1), (2, .int x2), (3, .int x3), (4, .int 1), (5, .int x5), (6, .int (x6 + 1))] rfl ic_1 (by decide) [1, 2, 3, 4, 5, 6, 0] rfl dX7_isAll_108 ?_
            refine A_goto C (pc := 111) 20 (by decide) dX7_isAll_111 ?_
            exact hk20 _ _ hf
set_option maxRecDepth 100000 in
theorem w_X7_isAll_L49 {M : Mem} {x1 : Int32} {x2 : Int32} {x3 : Int32} {x4 : Int32} {x5 : Int32} {x6 : Int32} {r : Int32} (C : Cx p s m args c cX7_isAll 8 RX7 B D Y) (hr : meth.sig.returnType = (some .boolean)) (hk : meth.locks = false)  {k6 : (Int32 × Int32) → Option Int32} (hk6 : ∀ (x4 : Int32) (x5 : Int32), k6 (x4, x5) = some r → At p l e rm_X7_isAll s m args below meth c 8 0 0 (QQ below args s B D Y M o (some (.int r))) B D Y o 6 M [(0, .ref (B + 47)), (1, .int x1), (2, .int x2), (3, .int x3), (4, .int x4), (5, .int x5)] []) {k20 : (Int32 × Int32) → Option Int32} (hk20 : ∀ (x4 : Int32) (x6 : Int32), k20 (x4, x6) = some r → At p l e rm_X7_isAll s m args below meth c 8 0 0 (QQ below args s B D Y M o (some (.int r))) B D Y o 20 M [(0, .ref (B + 47)), (1, .int x1), (2, .int x2), (3, .int x3), (4, .int x4), (5, .int x5), (6, .int x6)] []) (hf : f_X7_isAll_L49 M x1 x2 x3 x4 x5 x6 k6 k20 = some r) : At p l e rm_X7_isAll s m args below meth c 8 0 0 (QQ below args s B D Y M o (some (.int r))) B D Y o 49 M [(0, .ref (B + 47)), (1, .int x1), (2, .int x2), (3, .int x3), (4, .int x4), (5, .int x5), (6, .int x6)] [] := by
  dsimp only [f_X7_isAll_L49] at hf
  refine A_iconst C (pc := 49) ic_0 dX7_isAll_49 ?_
  exact w_X7_isAll_L50 C hr hk hk6 hk20 hf
set_option maxRecDepth 100000 in
theorem w_X7_isAll_L20 {M : Mem} {x1 : Int32} {x2 : Int32} {x3 : Int32} {x5 : Int32} {r : Int32} (C : Cx p s m args c cX7_isAll 8 RX7 B D Y) (hr : meth.sig.returnType = (some .boolean)) (hk : meth.locks = false)  {k6 : (Int32 × Int32) → Option Int32} (hk6 : ∀ (x4 : Int32) (x5 : Int32), k6 (x4, x5) = some r → At p l e rm_X7_isAll s m args below meth c 8 0 0 (QQ below args s B D Y M o (some (.int r))) B D Y o 6 M [(0, .ref (B + 47)), (1, .int x1), (2, .int x2), (3, .int x3), (4, .int x4), (5, .int x5)] []) : ∀ (n : Nat) (x4 : Int32) (x6 : Int32), f_X7_isAll_L20 M x1 x2 x3 x5 k6 n (x4, x6) = some r → At p l e rm_X7_isAll s m args below meth c 8 0 0 (QQ below args s B D Y M o (some (.int r))) B D Y o 20 M [(0, .ref (B + 47)), (1, .int x1), (2, .int x2), (3, .int x3), (4, .int x4), (5, .int x5), (6, .int x6)] [] := by
  intro n
  induction n with
  | zero => intro x4 x6 hf; exact nomatch (show (none : Option Int32) = some r from hf)
  | succ n hk20 =>
    intro x4 x6 hf
    replace hf : g_X7_isAll_L20 M x1 x2 x3 x5 k6 (f_X7_isAll_L20 M x1 x2 x3 x5 k6 n) (x4, x6) = some r := hf
    dsimp only [g_X7_isAll_L20] at hf
    refine A_iload C (pc := 20) 6 rfl dX7_isAll_20 ?_
    refine A_iload C (pc := 22) 5 rfl dX7_isAll_22 ?_
    refine A_icmp_ge C (pc := 24) 114 (by decide) dX7_isAll_24 hf (fun _ hf => ?_) (fun _ hf => ?_)
    · refine A_iinc C (pc := 114) (k0 := 5) [(0, .ref (B + 47)), (1, .int x1), (2, .int x2), (3, .int x3), (4, .int x4), (5, .int (x5 + 1))] rfl ic_1 (by decide) [1, 2, 3, 4, 5, 0] rfl dX7_isAll_114 ?_
      refine A_goto C (pc := 117) 6 (by decide) dX7_isAll_117 ?_
      exact hk6 _ _ hf
    · refine A_iload_n C (pc := 27) 2 rfl dX7_isAll_27 ?_
      refine A_iload C (pc := 28) 5 rfl dX7_isAll_28 ?_
      obtain ⟨z30, h30, hf⟩ := bd_i hf
      refine A_callS1 C (pc := 30) (A := [.int x2, .int x5]) (rest := []) k_X7_47 ky_X7_has ks_X7_has (m_X7_has l B D Y o  h30) rfl rfl (Nat.le_of_ble_eq_true rfl) ⟨rfl, rfl, Nat.le_of_ble_eq_true rfl, Nat.le_of_ble_eq_true rfl⟩ ⟨Nat.zero_le _, Nat.zero_le _⟩ dX7_isAll_30 ?_
      refine A_if_eq C (pc := 33) 49 (by decide) dX7_isAll_33 hf (fun _ hf => ?_) (fun _ hf => ?_)
      · exact w_X7_isAll_L49 C hr hk hk6 hk20 hf
      · refine A_iload_n C (pc := 36) 2 rfl dX7_isAll_36 ?_
        refine A_iload C (pc := 37) 6 rfl dX7_isAll_37 ?_
        obtain ⟨z39, h39, hf⟩ := bd_i hf
        refine A_callS1 C (pc := 39) (A := [.int x2, .int x6]) (rest := []) k_X7_47 ky_X7_has ks_X7_has (m_X7_has l B D Y o  h39) rfl rfl (Nat.le_of_ble_eq_true rfl) ⟨rfl, rfl, Nat.le_of_ble_eq_true rfl, Nat.le_of_ble_eq_true rfl⟩ ⟨Nat.zero_le _, Nat.zero_le _⟩ dX7_isAll_39 ?_
        refine A_if_eq C (pc := 42) 49 (by decide) dX7_isAll_42 hf (fun _ hf => ?_) (fun _ hf => ?_)
        · exact w_X7_isAll_L49 C hr hk hk6 hk20 hf
        · refine A_iconst C (pc := 45) ic_1 dX7_isAll_45 ?_
          refine A_goto C (pc := 46) 50 (by decide) dX7_isAll_46 ?_
          exact w_X7_isAll_L50 C hr hk hk6 hk20 hf
set_option maxRecDepth 100000 in
theorem w_X7_isAll_L6 {M : Mem} {x1 : Int32} {x2 : Int32} {x3 : Int32} {r : Int32} (C : Cx p s m args c cX7_isAll 8 RX7 B D Y) (hr : meth.sig.returnType = (some .boolean)) (hk : meth.locks = false)  : ∀ (n : Nat) (x4 : Int32) (x5 : Int32), f_X7_isAll_L6 M x1 x2 x3 n (x4, x5) = some r → At p l e rm_X7_isAll s m args below meth c 8 0 0 (QQ below args s B D Y M o (some (.int r))) B D Y o 6 M [(0, .ref (B + 47)), (1, .int x1), (2, .int x2), (3, .int x3), (4, .int x4), (5, .int x5)] [] := by
  intro n
  induction n with
  | zero => intro x4 x5 hf; exact nomatch (show (none : Option Int32) = some r from hf)
  | succ n hk6 =>
    intro x4 x5 hf
    replace hf : g_X7_isAll_L6 M x1 x2 x3 (f_X7_isAll_L6 M x1 x2 x3 n) (x4, x5) = some r := hf
    dsimp only [g_X7_isAll_L6] at hf
    refine A_iload C (pc := 6) 5 rfl dX7_isAll_6 ?_
    refine A_aload_n C (pc := 8) 0 rfl dX7_isAll_8 ?_
    refine A_g7_0 C (pc := 9) kf_X7_9 dX7_isAll_9 ?_
    refine A_iload_n C (pc := 12) 1 rfl dX7_isAll_12 ?_
    obtain ⟨c13, hf⟩ := chk_i hf
    refine A_iald C (pc := 13) (show IA 48 5 from ⟨rfl, rfl⟩) c13 dX7_isAll_13 ?_
    refine A_icmp_ge C (pc := 14) 120 (by decide) dX7_isAll_14 hf (fun _ hf => ?_) (fun _ hf => ?_)
    · refine A_iload C (pc := 120) 4 rfl dX7_isAll_120 ?_
      obtain ⟨c122, hf⟩ := chk_i hf
      exact R_iP C (pc := 122) hr hk (isb_nz c122) dX7_isAll_122 hf
    · refine A_iconst C (pc := 17) ic_0 dX7_isAll_17 ?_
      refine A_istore C (pc := 18) [(0, .ref (B + 47)), (1, .int x1), (2, .int x2), (3, .int x3), (4, .int x4), (5, .int x5), (6, .int 0)] (by decide) [1, 2, 3, 4, 5, 6, 0] rfl dX7_isAll_18 ?_
      exact w_X7_isAll_L20 C hr hk hk6 FU _ _  hf
set_option maxRecDepth 100000 in
theorem m_X7_isAll (l : Launch) (B : Nat) (D : va_G) (Y : Nat → ClassId) (o : Ou) {M : Mem} {x1 : Int32} {x2 : Int32} {x3 : Int32} {r : Int32}  (hf : f_X7_isAll M x1 x2 x3 = some r) : MW l yX7_isAll cX7_isAll 8 (some .boolean) rm_X7_isAll B D Y o [.ref (B + 47), .int x1, .int x2, .int x3] M M (some (.int r)) := by
  refine ofAt (L0 := [(0, .ref (B + 47)), (1, .int x1), (2, .int x2), (3, .int x3)]) (by decide +kernel) (Nat.le_of_ble_eq_true rfl) rfl (fun p e s m args below meth c C hr hk => ?_)
  dsimp only [f_X7_isAll] at hf
  refine A_iconst C (pc := 0) ic_1 dX7_isAll_0 ?_
  refine A_istore C (pc := 1) [(0, .ref (B + 47)), (1, .int x1), (2, .int x2), (3, .int x3), (4, .int 1)] (by decide) [1, 2, 3, 4, 0] rfl dX7_isAll_1 ?_
  refine A_iconst C (pc := 3) ic_0 dX7_isAll_3 ?_
  refine A_istore C (pc := 4) [(0, .ref (B + 47)), (1, .int x1), (2, .int x2), (3, .int x3), (4, .int 1), (5, .int 0)] (by decide) [1, 2, 3, 4, 5, 0] rfl dX7_isAll_4 ?_
  exact w_X7_isAll_L6 C hr hk FU _ _  hf
set_option maxRecDepth 100000 in
theorem m_X7_isChain (l : Launch) (B : Nat) (D : va_G) (Y : Nat → ClassId) (o : Ou) {M : Mem} {x1 : Int32} {x2 : Int32} {r : Int32 × Mem}  (hf : f_X7_isChain M x1 x2 = some r) : MW l yX7_isChain cX7_isChain 3 (some .boolean) rm_X7_isChain B D Y o [.ref (B + 47), .int x1, .int x2] M r.2 (some (.int r.1)) := by
  refine ofAt (L0 := [(0, .ref (B + 47)), (1, .int x1), (2, .int x2)]) (by decide +kernel) (Nat.le_of_ble_eq_true rfl) rfl (fun p e s m args below meth c C hr hk => ?_)
  dsimp only [f_X7_isChain] at hf
  refine A_aload_n C (pc := 0) 0 rfl dX7_isChain_0 ?_
  refine A_iload_n C (pc := 1) 1 rfl dX7_isChain_1 ?_
  obtain ⟨z2, h2, hf⟩ := bd_i hf
  refine A_callS1 C (pc := 2) (A := [.int x1]) (rest := [.ref (B + 47)]) k_X7_43 ky_X7_isOrder ks_X7_isOrder (m_X7_isOrder l B D Y o  h2) rfl rfl (Nat.le_of_ble_eq_true rfl) ⟨rfl, rfl, Nat.le_of_ble_eq_true rfl, Nat.le_of_ble_eq_true rfl⟩ ⟨Nat.zero_le _, Nat.zero_le _⟩ dX7_isChain_2 ?_
  refine A_iconst C (pc := 5) ic_1 dX7_isChain_5 ?_
  obtain ⟨z6, h6, hf⟩ := bd_i hf
  refine A_callV1 C (pc := 6) (A := [.int z2, .int 1]) (rest := []) k_X7_51 ky_X7_lets kv_X7_lets (m_X7_lets l B D Y o  h6) (by decide) rfl rfl rfl rfl (Nat.le_of_ble_eq_true rfl) ⟨rfl, rfl, Nat.le_of_ble_eq_true rfl, Nat.le_of_ble_eq_true rfl⟩ ⟨Nat.zero_le _, Nat.zero_le _⟩ dX7_isChain_6 ?_
  refine A_if_eq C (pc := 9) 40 (by decide) dX7_isChain_9 hf (fun _ hf => ?_) (fun _ hf => ?_)
  · refine A_iconst C (pc := 40) ic_0 dX7_isChain_40 ?_
    exact R_iM C (pc := 41) hr hk nz_0 dX7_isChain_41 hf
  · refine A_aload_n C (pc := 12) 0 rfl dX7_isChain_12 ?_
    refine A_aload_n C (pc := 13) 0 rfl dX7_isChain_13 ?_
    refine A_iload_n C (pc := 14) 1 rfl dX7_isChain_14 ?_
    refine A_iload_n C (pc := 15) 2 rfl dX7_isChain_15 ?_
    obtain ⟨z16, h16, hf⟩ := bd_i hf
    refine A_callV1 C (pc := 16) (A := [.int x1, .int x2]) (rest := [.ref (B + 47)]) k_X7_72 ky_X7_isSet kv_X7_isSet (m_X7_isSet l B D Y o  h16) (by decide) rfl rfl rfl rfl (Nat.le_of_ble_eq_true rfl) ⟨rfl, rfl, Nat.le_of_ble_eq_true rfl, Nat.le_of_ble_eq_true rfl⟩ ⟨Nat.zero_le _, Nat.zero_le _⟩ dX7_isChain_16 ?_
    refine A_iconst C (pc := 19) ic_2 dX7_isChain_19 ?_
    obtain ⟨z20, h20, hf⟩ := bd_i hf
    refine A_callV1 C (pc := 20) (A := [.int z16, .int 2]) (rest := []) k_X7_51 ky_X7_lets kv_X7_lets (m_X7_lets l B D Y o  h20) (by decide) rfl rfl rfl rfl (Nat.le_of_ble_eq_true rfl) ⟨rfl, rfl, Nat.le_of_ble_eq_true rfl, Nat.le_of_ble_eq_true rfl⟩ ⟨Nat.zero_le _, Nat.zero_le _⟩ dX7_isChain_20 ?_
    refine A_if_eq C (pc := 23) 40 (by decide) dX7_isChain_23 hf (fun _ hf => ?_) (fun _ hf => ?_)
    · refine A_iconst C (pc := 40) ic_0 dX7_isChain_40 ?_
      exact R_iM C (pc := 41) hr hk nz_0 dX7_isChain_41 hf
    · refine A_aload_n C (pc := 26) 0 rfl dX7_isChain_26 ?_
      refine A_iload_n C (pc := 27) 1 rfl dX7_isChain_27 ?_
      refine A_iload_n C (pc := 28) 2 rfl dX7_isChain_28 ?_
      refine A_iconst C (pc := 29) ic_1 dX7_isChain_29 ?_
      obtain ⟨z30, h30, hf⟩ := bd_i hf
      refine A_callV1 C (pc := 30) (A := [.int x1, .int x2, .int 1]) (rest := []) k_X7_101 ky_X7_isAll kv_X7_isAll (m_X7_isAll l B D Y o  h30) (by decide) rfl rfl rfl rfl (Nat.le_of_ble_eq_true rfl) ⟨rfl, rfl, Nat.le_of_ble_eq_true rfl, Nat.le_of_ble_eq_true rfl⟩ ⟨Nat.zero_le _, Nat.zero_le _⟩ dX7_isChain_30 ?_
      refine A_if_eq C (pc := 33) 40 (by decide) dX7_isChain_33 hf (fun _ hf => ?_) (fun _ hf => ?_)
      · refine A_iconst C (pc := 40) ic_0 dX7_isChain_40 ?_
        exact R_iM C (pc := 41) hr hk nz_0 dX7_isChain_41 hf
      · refine A_iconst C (pc := 36) ic_1 dX7_isChain_36 ?_
        refine A_goto C (pc := 37) 41 (by decide) dX7_isChain_37 ?_
        exact R_iM C (pc := 41) hr hk nz_1 dX7_isChain_41 hf
set_option maxRecDepth 100000 in
theorem m_X7_isApart (l : Launch) (B : Nat) (D : va_G) (Y : Nat → ClassId) (o : Ou) {M : Mem} {x1 : Int32} {x2 : Int32} {r : Int32 × Mem}  (hf : f_X7_isApart M x1 x2 = some r) : MW l yX7_isApart cX7_isApart 3 (some .boolean) rm_X7_isApart B D Y o [.ref (B + 47), .int x1, .int x2] M r.2 (some (.int r.1)) := by
  refine ofAt (L0 := [(0, .ref (B + 47)), (1, .int x1), (2, .int x2)]) (by decide +kernel) (Nat.le_of_ble_eq_true rfl) rfl (fun p e s m args below meth c C hr hk => ?_)
  dsimp only [f_X7_isApart] at hf
  refine A_aload_n C (pc := 0) 0 rfl dX7_isApart_0 ?_
  refine A_iload_n C (pc := 1) 1 rfl dX7_isApart_1 ?_
  obtain ⟨z2, h2, hf⟩ := bd_i hf
  refine A_callS1 C (pc := 2) (A := [.int x1]) (rest := [.ref (B + 47)]) k_X7_43 ky_X7_isOrder ks_X7_isOrder (m_X7_isOrder l B D Y o  h2) rfl rfl (Nat.le_of_ble_eq_true rfl) ⟨rfl, rfl, Nat.le_of_ble_eq_true rfl, Nat.le_of_ble_eq_true rfl⟩ ⟨Nat.zero_le _, Nat.zero_le _⟩ dX7_isApart_2 ?_
  refine A_iconst C (pc := 5) ic_1 dX7_isApart_5 ?_
  obtain ⟨z6, h6, hf⟩ := bd_i hf
  refine A_callV1 C (pc := 6) (A := [.int z2, .int 1]) (rest := []) k_X7_51 ky_X7_lets kv_X7_lets (m_X7_lets l B D Y o  h6) (by decide) rfl rfl rfl rfl (Nat.le_of_ble_eq_true rfl) ⟨rfl, rfl, Nat.le_of_ble_eq_true rfl, Nat.le_of_ble_eq_true rfl⟩ ⟨Nat.zero_le _, Nat.zero_le _⟩ dX7_isApart_6 ?_
  refine A_if_eq C (pc := 9) 40 (by decide) dX7_isApart_9 hf (fun _ hf => ?_) (fun _ hf => ?_)
  · refine A_iconst C (pc := 40) ic_0 dX7_isApart_40 ?_
    exact R_iM C (pc := 41) hr hk nz_0 dX7_isApart_41 hf
  · refine A_aload_n C (pc := 12) 0 rfl dX7_isApart_12 ?_
    refine A_aload_n C (pc := 13) 0 rfl dX7_isApart_13 ?_
    refine A_iload_n C (pc := 14) 1 rfl dX7_isApart_14 ?_
    refine A_iload_n C (pc := 15) 2 rfl dX7_isApart_15 ?_
    obtain ⟨z16, h16, hf⟩ := bd_i hf
    refine A_callV1 C (pc := 16) (A := [.int x1, .int x2]) (rest := [.ref (B + 47)]) k_X7_72 ky_X7_isSet kv_X7_isSet (m_X7_isSet l B D Y o  h16) (by decide) rfl rfl rfl rfl (Nat.le_of_ble_eq_true rfl) ⟨rfl, rfl, Nat.le_of_ble_eq_true rfl, Nat.le_of_ble_eq_true rfl⟩ ⟨Nat.zero_le _, Nat.zero_le _⟩ dX7_isApart_16 ?_
    refine A_iconst C (pc := 19) ic_2 dX7_isApart_19 ?_
    obtain ⟨z20, h20, hf⟩ := bd_i hf
    refine A_callV1 C (pc := 20) (A := [.int z16, .int 2]) (rest := []) k_X7_51 ky_X7_lets kv_X7_lets (m_X7_lets l B D Y o  h20) (by decide) rfl rfl rfl rfl (Nat.le_of_ble_eq_true rfl) ⟨rfl, rfl, Nat.le_of_ble_eq_true rfl, Nat.le_of_ble_eq_true rfl⟩ ⟨Nat.zero_le _, Nat.zero_le _⟩ dX7_isApart_20 ?_
    refine A_if_eq C (pc := 23) 40 (by decide) dX7_isApart_23 hf (fun _ hf => ?_) (fun _ hf => ?_)
    · refine A_iconst C (pc := 40) ic_0 dX7_isApart_40 ?_
      exact R_iM C (pc := 41) hr hk nz_0 dX7_isApart_41 hf
    · refine A_aload_n C (pc := 26) 0 rfl dX7_isApart_26 ?_
      refine A_iload_n C (pc := 27) 1 rfl dX7_isApart_27 ?_
      refine A_iload_n C (pc := 28) 2 rfl dX7_isApart_28 ?_
      refine A_iconst C (pc := 29) ic_0 dX7_isApart_29 ?_
      obtain ⟨z30, h30, hf⟩ := bd_i hf
      refine A_callV1 C (pc := 30) (A := [.int x1, .int x2, .int 0]) (rest := []) k_X7_101 ky_X7_isAll kv_X7_isAll (m_X7_isAll l B D Y o  h30) (by decide) rfl rfl rfl rfl (Nat.le_of_ble_eq_true rfl) ⟨rfl, rfl, Nat.le_of_ble_eq_true rfl, Nat.le_of_ble_eq_true rfl⟩ ⟨Nat.zero_le _, Nat.zero_le _⟩ dX7_isApart_30 ?_
      refine A_if_eq C (pc := 33) 40 (by decide) dX7_isApart_33 hf (fun _ hf => ?_) (fun _ hf => ?_)
      · refine A_iconst C (pc := 40) ic_0 dX7_isApart_40 ?_
        exact R_iM C (pc := 41) hr hk nz_0 dX7_isApart_41 hf
      · refine A_iconst C (pc := 36) ic_1 dX7_isApart_36 ?_
        refine A_goto C (pc := 37) 41 (by decide) dX7_isApart_37 ?_
        exact R_iM C (pc := 41) hr hk nz_1 dX7_isApart_41 hf
set_option maxRecDepth 100000 in
theorem w_X7_levelOf_L5 {M : Mem} {x1 : Int32} {x2 : Int32} {r : Int32} (C : Cx p s m args c cX7_levelOf 6 RX7 B D Y) (hr : meth.sig.returnType = (some .int)) (hk : meth.locks = false) {nn : Nat} {rec : (Mem × Int32 × Int32) → Option Int32} (hrec : ∀ (M : Mem) (x1 : Int32) (x2 : Int32) (r : Int32) , rec (M, x1, x2) = some r → MW l yX7_levelOf cX7_levelOf 6 (some .int) (rm_X7_levelOf nn) B D Y o [.ref (B + 47), .int x1, .int x2] M M (some (.int r)))  : ∀ (n : Nat) (x3 : Int32) (x4 : Int32), f_X7_levelOf_L5 M x1 x2 rec n (x3, x4) = some r → At p l e (rm_X7_levelOf (nn + 1)) s m args below meth c 6 0 0 (QQ below args s B D Y M o (some (.int r))) B D Y o 5 M [(0, .ref (B + 47)), (1, .int x1), (2, .int x2), (3, .int x3), (4, .int x4)] [] := by
  intro n
  induction n with
  | zero => intro x3 x4 hf; exact nomatch (show (none : Option Int32) = some r from hf)
  | succ n hk5 =>
    intro x3 x4 hf
    replace hf : g_X7_levelOf_L5 M x1 x2 rec (f_X7_levelOf_L5 M x1 x2 rec n) (x3, x4) = some r := hf
    dsimp only [g_X7_levelOf_L5] at hf
    refine A_iload C (pc := 5) 4 rfl dX7_levelOf_5 ?_
    refine A_aload_n C (pc := 7) 0 rfl dX7_levelOf_7 ?_
    refine A_g7_0 C (pc := 8) kf_X7_9 dX7_levelOf_8 ?_
    refine A_iload_n C (pc := 11) 1 rfl dX7_levelOf_11 ?_
    obtain ⟨c12, hf⟩ := chk_i hf
    refine A_iald C (pc := 12) (show IA 48 5 from ⟨rfl, rfl⟩) c12 dX7_levelOf_12 ?_
    refine A_icmp_ge C (pc := 13) 62 (by decide) dX7_levelOf_13 hf (fun _ hf => ?_) (fun _ hf => ?_)
    · refine A_iload_n C (pc := 62) 3 rfl dX7_levelOf_62 ?_
      refine A_iconst C (pc := 63) ic_1 dX7_levelOf_63 ?_
      refine A_iadd C (pc := 64) dX7_levelOf_64 ?_
      exact R_iP C (pc := 65) hr hk rfl dX7_levelOf_65 hf
    · refine A_aload_n C (pc := 16) 0 rfl dX7_levelOf_16 ?_
      refine A_g7_2 C (pc := 17) kf_X7_20 dX7_levelOf_17 ?_
      refine A_iload_n C (pc := 20) 1 rfl dX7_levelOf_20 ?_
      obtain ⟨c21, hf⟩ := chk_i hf
      refine A_aB C (pc := 21) c21 dX7_levelOf_21 ?_
      refine A_iload C (pc := 22) 4 rfl dX7_levelOf_22 ?_
      obtain ⟨c24, hf⟩ := chk_i hf
      refine A_aR C (pc := 24) (kBel (inb_lt c21)) c24 dX7_levelOf_24 ?_
      refine A_iload_n C (pc := 25) 2 rfl dX7_levelOf_25 ?_
      obtain ⟨c26, hf⟩ := chk_i hf
      refine A_zald C (pc := 26) (kRow (kBel (inb_lt c21)) (inb_lt c24)) c26 dX7_levelOf_26 ?_
      refine A_if_eq C (pc := 27) 40 (by decide) dX7_levelOf_27 hf (fun _ hf => ?_) (fun _ hf => ?_)
      · refine A_iconst C (pc := 40) ic_0 dX7_levelOf_40 ?_
        refine A_istore C (pc := 41) [(0, .ref (B + 47)), (1, .int x1), (2, .int x2), (3, .int x3), (4, .int x4), (5, .int 0)] (by decide) [1, 2, 3, 4, 5, 0] rfl dX7_levelOf_41 ?_
        refine A_iload C (pc := 43) 5 rfl dX7_levelOf_43 ?_
        refine A_iload_n C (pc := 45) 3 rfl dX7_levelOf_45 ?_
        refine A_icmp_le C (pc := 46) 54 (by decide) dX7_levelOf_46 hf (fun _ hf => ?_) (fun _ hf => ?_)
        · refine A_iload_n C (pc := 54) 3 rfl dX7_levelOf_54 ?_
          refine A_istore_n C (pc := 55) [(0, .ref (B + 47)), (1, .int x1), (2, .int x2), (3, .int x3), (4, .int x4)] rfl (by decide) [1, 2, 3, 0, 4] rfl dX7_levelOf_55 ?_
          refine A_iinc C (pc := 56) (k0 := 4) [(0, .ref (B + 47)), (1, .int x1), (2, .int x2), (3, .int x3), (4, .int (x4 + 1))] rfl ic_1 (by decide) [1, 2, 3, 4, 0] rfl dX7_levelOf_56 ?_
          refine A_goto C (pc := 59) 5 (by decide) dX7_levelOf_59 ?_
          exact hk5 _ _ hf
        · refine A_iload C (pc := 49) 5 rfl dX7_levelOf_49 ?_
          refine A_goto C (pc := 51) 55 (by decide) dX7_levelOf_51 ?_
          refine A_istore_n C (pc := 55) [(0, .ref (B + 47)), (1, .int x1), (2, .int x2), (3, .int 0), (4, .int x4)] rfl (by decide) [1, 2, 3, 0, 4] rfl dX7_levelOf_55 ?_
          refine A_iinc C (pc := 56) (k0 := 4) [(0, .ref (B + 47)), (1, .int x1), (2, .int x2), (3, .int 0), (4, .int (x4 + 1))] rfl ic_1 (by decide) [1, 2, 3, 4, 0] rfl dX7_levelOf_56 ?_
          refine A_goto C (pc := 59) 5 (by decide) dX7_levelOf_59 ?_
          exact hk5 _ _ hf
      · refine A_aload_n C (pc := 30) 0 rfl dX7_levelOf_30 ?_
        refine A_iload_n C (pc := 31) 1 rfl dX7_levelOf_31 ?_
        refine A_iload C (pc := 32) 4 rfl dX7_levelOf_32 ?_
        obtain ⟨z34, h34, hf⟩ := bd_i hf
        refine A_callV1 C (pc := 34) (A := [.int x1, .int x4]) (rest := []) k_X7_105 ky_X7_levelOf kv_X7_levelOf (hrec _ _ _ _  h34) (by decide) rfl rfl rfl rfl (Nat.le_of_ble_eq_true rfl) ⟨rfl, rfl, (by simp only [rm_X7_levelOf]; omega), (by simp only [rm_X7_levelOf]; omega)⟩ ⟨Nat.zero_le _, Nat.zero_le _⟩ dX7_levelOf_34 ?_
        refine A_goto C (pc := 37) 41 (by decide) dX7_levelOf_37 ?_
        refine A_istore C (pc := 41) [(0, .ref (B + 47)), (1, .int x1), (2, .int x2), (3, .int x3), (4, .int x4), (5, .int z34)] (by decide) [1, 2, 3, 4, 5, 0] rfl dX7_levelOf_41 ?_
        refine A_iload C (pc := 43) 5 rfl dX7_levelOf_43 ?_
        refine A_iload_n C (pc := 45) 3 rfl dX7_levelOf_45 ?_
        refine A_icmp_le C (pc := 46) 54 (by decide) dX7_levelOf_46 hf (fun _ hf => ?_) (fun _ hf => ?_)
        · refine A_iload_n C (pc := 54) 3 rfl dX7_levelOf_54 ?_
          refine A_istore_n C (pc := 55) [(0, .ref (B + 47)), (1, .int x1), (2, .int x2), (3, .int x3), (4, .int x4)] rfl (by decide) [1, 2, 3, 0, 4] rfl dX7_levelOf_55 ?_
          refine A_iinc C (pc := 56) (k0 := 4) [(0, .ref (B + 47)), (1, .int x1), (2, .int x2), (3, .int x3), (4, .int (x4 + 1))] rfl ic_1 (by decide) [1, 2, 3, 4, 0] rfl dX7_levelOf_56 ?_
          refine A_goto C (pc := 59) 5 (by decide) dX7_levelOf_59 ?_
          exact hk5 _ _ hf
        · refine A_iload C (pc := 49) 5 rfl dX7_levelOf_49 ?_
          refine A_goto C (pc := 51) 55 (by decide) dX7_levelOf_51 ?_
          refine A_istore_n C (pc := 55) [(0, .ref (B + 47)), (1, .int x1), (2, .int x2), (3, .int z34), (4, .int x4)] rfl (by decide) [1, 2, 3, 0, 4] rfl dX7_levelOf_55 ?_
          refine A_iinc C (pc := 56) (k0 := 4) [(0, .ref (B + 47)), (1, .int x1), (2, .int x2), (3, .int z34), (4, .int (x4 + 1))] rfl ic_1 (by decide) [1, 2, 3, 4, 0] rfl dX7_levelOf_56 ?_
          refine A_goto C (pc := 59) 5 (by decide) dX7_levelOf_59 ?_
          exact hk5 _ _ hf
set_option maxRecDepth 100000 in
theorem m_X7_levelOf (l : Launch) (B : Nat) (D : va_G) (Y : Nat → ClassId) (o : Ou)  : ∀ (n : Nat) (M : Mem) (x1 : Int32) (x2 : Int32) (r : Int32) , f_X7_levelOf n (M, x1, x2) = some r → MW l yX7_levelOf cX7_levelOf 6 (some .int) (rm_X7_levelOf n) B D Y o [.ref (B + 47), .int x1, .int x2] M M (some (.int r)) := by
  intro nn
  induction nn with
  | zero => intro M x1 x2 r  hf; exact nomatch (show (none : Option Int32) = some r from hf)
  | succ nn hrec =>
    intro M x1 x2 r  hf
    replace hf : b_X7_levelOf (f_X7_levelOf nn) (M, x1, x2) = some r := hf
    dsimp only [b_X7_levelOf] at hf
    refine ofAt (L0 := [(0, .ref (B + 47)), (1, .int x1), (2, .int x2)]) (by decide +kernel) (Nat.le_of_ble_eq_true rfl) rfl (fun p e s m args below meth c C hr hk => ?_)
    refine A_iconst C (pc := 0) ic_0 dX7_levelOf_0 ?_
    refine A_istore_n C (pc := 1) [(0, .ref (B + 47)), (1, .int x1), (2, .int x2), (3, .int 0)] rfl (by decide) [1, 2, 3, 0] rfl dX7_levelOf_1 ?_
    refine A_iconst C (pc := 2) ic_0 dX7_levelOf_2 ?_
    refine A_istore C (pc := 3) [(0, .ref (B + 47)), (1, .int x1), (2, .int x2), (3, .int 0), (4, .int 0)] (by decide) [1, 2, 3, 4, 0] rfl dX7_levelOf_3 ?_
    exact w_X7_levelOf_L5 C hr hk hrec FU _ _  hf
set_option maxRecDepth 100000 in
theorem m_X7_level (l : Launch) (B : Nat) (D : va_G) (Y : Nat → ClassId) (o : Ou) {M : Mem} {x1 : Int32} {x2 : Int32} {r : Int32 × Mem}  (hf : f_X7_level M x1 x2 = some r) : MW l yX7_level cX7_level 3 (some .int) rm_X7_level B D Y o [.ref (B + 47), .int x1, .int x2] M r.2 (some (.int r.1)) := by
  refine ofAt (L0 := [(0, .ref (B + 47)), (1, .int x1), (2, .int x2)]) (by decide +kernel) (Nat.le_of_ble_eq_true rfl) rfl (fun p e s m args below meth c C hr hk => ?_)
  dsimp only [f_X7_level] at hf
  refine A_aload_n C (pc := 0) 0 rfl dX7_level_0 ?_
  refine A_aload_n C (pc := 1) 0 rfl dX7_level_1 ?_
  refine A_iload_n C (pc := 2) 1 rfl dX7_level_2 ?_
  refine A_iload_n C (pc := 3) 2 rfl dX7_level_3 ?_
  obtain ⟨z4, h4, hf⟩ := bd_i hf
  refine A_callV1 C (pc := 4) (A := [.int x1, .int x2]) (rest := [.ref (B + 47)]) k_X7_66 ky_X7_isThing kv_X7_isThing (m_X7_isThing l B D Y o  h4) (by decide) rfl rfl rfl rfl (Nat.le_of_ble_eq_true rfl) ⟨rfl, rfl, Nat.le_of_ble_eq_true rfl, Nat.le_of_ble_eq_true rfl⟩ ⟨Nat.zero_le _, Nat.zero_le _⟩ dX7_level_4 ?_
  refine A_iconst C (pc := 7) ic_1 dX7_level_7 ?_
  obtain ⟨z8, h8, hf⟩ := bd_i hf
  refine A_callV1 C (pc := 8) (A := [.int z4, .int 1]) (rest := []) k_X7_51 ky_X7_lets kv_X7_lets (m_X7_lets l B D Y o  h8) (by decide) rfl rfl rfl rfl (Nat.le_of_ble_eq_true rfl) ⟨rfl, rfl, Nat.le_of_ble_eq_true rfl, Nat.le_of_ble_eq_true rfl⟩ ⟨Nat.zero_le _, Nat.zero_le _⟩ dX7_level_8 ?_
  refine A_if_eq C (pc := 11) 23 (by decide) dX7_level_11 hf (fun _ hf => ?_) (fun _ hf => ?_)
  · refine A_iconst C (pc := 23) ic_0 dX7_level_23 ?_
    exact R_iM C (pc := 24) hr hk rfl dX7_level_24 hf
  · refine A_aload_n C (pc := 14) 0 rfl dX7_level_14 ?_
    refine A_iload_n C (pc := 15) 1 rfl dX7_level_15 ?_
    refine A_iload_n C (pc := 16) 2 rfl dX7_level_16 ?_
    obtain ⟨z17, h17, hf⟩ := bd_i hf
    refine A_callV1 C (pc := 17) (A := [.int x1, .int x2]) (rest := []) k_X7_105 ky_X7_levelOf kv_X7_levelOf (m_X7_levelOf l B D Y o RD _ _ _ _  h17) (by decide) rfl rfl rfl rfl (Nat.le_of_ble_eq_true rfl) ⟨rfl, rfl, Nat.le_of_ble_eq_true rfl, Nat.le_of_ble_eq_true rfl⟩ ⟨Nat.zero_le _, Nat.zero_le _⟩ dX7_level_17 ?_
    refine A_goto C (pc := 20) 24 (by decide) dX7_level_20 ?_
    exact R_iM C (pc := 24) hr hk rfl dX7_level_24 hf
end W2
