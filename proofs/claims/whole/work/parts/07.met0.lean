section W0
variable {p : Program} {l : Launch} {e : Env} {s : State} {m : MethodId} {args : Array Value} {below : List Frame} {meth : Method} {c : Code} {B : Nat} {D : va_G} {Y : Nat → ClassId} {o : Ou}
set_option maxRecDepth 100000 in
theorem m_X3_setLimit (l : Launch) (B : Nat) (D : va_G) (Y : Nat → ClassId) (o : Ou) {M : Mem} {q0 : Nat} {r : Int32} (hq0 : kd q0 = 2) (hf : f_X3_setLimit M q0 = some r) : MW l yX3_setLimit cX3_setLimit 1 (some .int) rm_X3_setLimit B D Y o [.ref (B + q0)] M M (some (.int r)) := by
  refine ofAt (L0 := [(0, .ref (B + q0))]) (by decide +kernel) (Nat.le_of_ble_eq_true rfl) rfl (fun p e s m args below meth c C hr hk => ?_)
  dsimp only [f_X3_setLimit] at hf
  refine A_iconst C (pc := 0) ic_1 dX3_setLimit_0 ?_
  refine A_aload_n C (pc := 1) 0 rfl dX3_setLimit_1 ?_
  refine A_g3_0 C (pc := 2) hq0 kf_X3_22 dX3_setLimit_2 ?_
  refine A_ishl C (pc := 5) dX3_setLimit_5 ?_
  exact R_iP C (pc := 6) hr hk rfl dX3_setLimit_6 hf
set_option maxRecDepth 100000 in
theorem m_X6_isWithin (l : Launch) (B : Nat) (D : va_G) (Y : Nat → ClassId) (o : Ou) {M0 : Mem} {x0 : Int32} {x1 : Int32} {r : Int32}  (hf : f_X6_isWithin x0 x1 = some r) : MW l yX6_isWithin cX6_isWithin 2 (some .boolean) rm_X6_isWithin B D Y o [.int x0, .int x1] M0 M0 (some (.int r)) := by
  refine ofAt (L0 := [(0, .int x0), (1, .int x1)]) (by decide +kernel) (Nat.le_of_ble_eq_true rfl) rfl (fun p e s m args below meth c C hr hk => ?_)
  dsimp only [f_X6_isWithin] at hf
  refine A_iload_n C (pc := 0) 0 rfl dX6_isWithin_0 ?_
  refine A_iload_n C (pc := 1) 1 rfl dX6_isWithin_1 ?_
  refine A_iconst C (pc := 2) ic_m1 dX6_isWithin_2 ?_
  refine A_ixor C (pc := 3) dX6_isWithin_3 ?_
  refine A_iand C (pc := 4) dX6_isWithin_4 ?_
  refine A_if_ne C (pc := 5) 12 (by decide) dX6_isWithin_5 hf (fun _ hf => ?_) (fun _ hf => ?_)
  · refine A_iconst C (pc := 12) ic_0 dX6_isWithin_12 ?_
    exact R_iP C (pc := 13) hr hk nz_0 dX6_isWithin_13 hf
  · refine A_iconst C (pc := 8) ic_1 dX6_isWithin_8 ?_
    refine A_goto C (pc := 9) 13 (by decide) dX6_isWithin_9 ?_
    exact R_iP C (pc := 13) hr hk nz_1 dX6_isWithin_13 hf
set_option maxRecDepth 100000 in
theorem m_X6_has (l : Launch) (B : Nat) (D : va_G) (Y : Nat → ClassId) (o : Ou) {M0 : Mem} {x0 : Int32} {x1 : Int32} {r : Int32}  (hf : f_X6_has x0 x1 = some r) : MW l yX6_has cX6_has 2 (some .boolean) rm_X6_has B D Y o [.int x0, .int x1] M0 M0 (some (.int r)) := by
  refine ofAt (L0 := [(0, .int x0), (1, .int x1)]) (by decide +kernel) (Nat.le_of_ble_eq_true rfl) rfl (fun p e s m args below meth c C hr hk => ?_)
  dsimp only [f_X6_has] at hf
  refine A_iload_n C (pc := 0) 0 rfl dX6_has_0 ?_
  refine A_iload_n C (pc := 1) 1 rfl dX6_has_1 ?_
  refine A_ishr C (pc := 2) dX6_has_2 ?_
  refine A_iconst C (pc := 3) ic_1 dX6_has_3 ?_
  refine A_iand C (pc := 4) dX6_has_4 ?_
  refine A_if_eq C (pc := 5) 12 (by decide) dX6_has_5 hf (fun _ hf => ?_) (fun _ hf => ?_)
  · refine A_iconst C (pc := 12) ic_0 dX6_has_12 ?_
    exact R_iP C (pc := 13) hr hk nz_0 dX6_has_13 hf
  · refine A_iconst C (pc := 8) ic_1 dX6_has_8 ?_
    refine A_goto C (pc := 9) 13 (by decide) dX6_has_9 ?_
    exact R_iP C (pc := 13) hr hk nz_1 dX6_has_13 hf
set_option maxRecDepth 100000 in
theorem m_J6_bitCount_0f7a4 (l : Launch) (B : Nat) (D : va_G) (Y : Nat → ClassId) (o : Ou) {M0 : Mem} {x0 : Int32} {r : Int32}  (hf : f_J6_bitCount_0f7a4 x0 = some r) : MW l yJ6_bitCount_0f7a4 cJ6_bitCount_0f7a4 1 (some .int) rm_J6_bitCount_0f7a4 B D Y o [.int x0] M0 M0 (some (.int r)) := by
  refine ofAt (L0 := [(0, .int x0)]) (by decide +kernel) (Nat.le_of_ble_eq_true rfl) rfl (fun p e s m args below meth c C hr hk => ?_)
  dsimp only [f_J6_bitCount_0f7a4] at hf
  refine A_iload_n C (pc := 0) 0 rfl dJ6_bitCount_0f7a4_0 ?_
  refine A_iload_n C (pc := 1) 0 rfl dJ6_bitCount_0f7a4_1 ?_
  refine A_iconst C (pc := 2) ic_1 dJ6_bitCount_0f7a4_2 ?_
  refine A_iushr C (pc := 3) dJ6_bitCount_0f7a4_3 ?_
  refine A_ldcw C (pc := 4) kk_J6_265 dJ6_bitCount_0f7a4_4 ?_
  refine A_iand C (pc := 7) dJ6_bitCount_0f7a4_7 ?_
  refine A_isub C (pc := 8) dJ6_bitCount_0f7a4_8 ?_
  obtain ⟨v9, e9, hf⟩ := bd_i hf
  refine A_nmI e9 ?_
  refine A_istore_n C (pc := 9) [(0, .int v9)] rfl (by decide) [0] rfl dJ6_bitCount_0f7a4_9 ?_
  refine A_iload_n C (pc := 10) 0 rfl dJ6_bitCount_0f7a4_10 ?_
  refine A_ldcw C (pc := 11) kk_J6_266 dJ6_bitCount_0f7a4_11 ?_
  refine A_iand C (pc := 14) dJ6_bitCount_0f7a4_14 ?_
  refine A_iload_n C (pc := 15) 0 rfl dJ6_bitCount_0f7a4_15 ?_
  refine A_iconst C (pc := 16) ic_2 dJ6_bitCount_0f7a4_16 ?_
  refine A_iushr C (pc := 17) dJ6_bitCount_0f7a4_17 ?_
  refine A_ldcw C (pc := 18) kk_J6_266 dJ6_bitCount_0f7a4_18 ?_
  refine A_iand C (pc := 21) dJ6_bitCount_0f7a4_21 ?_
  refine A_iadd C (pc := 22) dJ6_bitCount_0f7a4_22 ?_
  obtain ⟨v23, e23, hf⟩ := bd_i hf
  refine A_nmI e23 ?_
  refine A_istore_n C (pc := 23) [(0, .int v23)] rfl (by decide) [0] rfl dJ6_bitCount_0f7a4_23 ?_
  refine A_iload_n C (pc := 24) 0 rfl dJ6_bitCount_0f7a4_24 ?_
  refine A_iload_n C (pc := 25) 0 rfl dJ6_bitCount_0f7a4_25 ?_
  refine A_iconst C (pc := 26) ic_4 dJ6_bitCount_0f7a4_26 ?_
  refine A_iushr C (pc := 27) dJ6_bitCount_0f7a4_27 ?_
  refine A_iadd C (pc := 28) dJ6_bitCount_0f7a4_28 ?_
  refine A_ldcw C (pc := 29) kk_J6_267 dJ6_bitCount_0f7a4_29 ?_
  refine A_iand C (pc := 32) dJ6_bitCount_0f7a4_32 ?_
  obtain ⟨v33, e33, hf⟩ := bd_i hf
  refine A_nmI e33 ?_
  refine A_istore_n C (pc := 33) [(0, .int v33)] rfl (by decide) [0] rfl dJ6_bitCount_0f7a4_33 ?_
  refine A_iload_n C (pc := 34) 0 rfl dJ6_bitCount_0f7a4_34 ?_
  refine A_iload_n C (pc := 35) 0 rfl dJ6_bitCount_0f7a4_35 ?_
  refine A_bipush C (pc := 36) bc_8 dJ6_bitCount_0f7a4_36 ?_
  refine A_iushr C (pc := 38) dJ6_bitCount_0f7a4_38 ?_
  refine A_iadd C (pc := 39) dJ6_bitCount_0f7a4_39 ?_
  obtain ⟨v40, e40, hf⟩ := bd_i hf
  refine A_nmI e40 ?_
  refine A_istore_n C (pc := 40) [(0, .int v40)] rfl (by decide) [0] rfl dJ6_bitCount_0f7a4_40 ?_
  refine A_iload_n C (pc := 41) 0 rfl dJ6_bitCount_0f7a4_41 ?_
  refine A_iload_n C (pc := 42) 0 rfl dJ6_bitCount_0f7a4_42 ?_
  refine A_bipush C (pc := 43) bc_16 dJ6_bitCount_0f7a4_43 ?_
  refine A_iushr C (pc := 45) dJ6_bitCount_0f7a4_45 ?_
  refine A_iadd C (pc := 46) dJ6_bitCount_0f7a4_46 ?_
  obtain ⟨v47, e47, hf⟩ := bd_i hf
  refine A_nmI e47 ?_
  refine A_istore_n C (pc := 47) [(0, .int v47)] rfl (by decide) [0] rfl dJ6_bitCount_0f7a4_47 ?_
  refine A_iload_n C (pc := 48) 0 rfl dJ6_bitCount_0f7a4_48 ?_
  refine A_bipush C (pc := 49) bc_63 dJ6_bitCount_0f7a4_49 ?_
  refine A_iand C (pc := 51) dJ6_bitCount_0f7a4_51 ?_
  exact R_iP C (pc := 52) hr hk rfl dJ6_bitCount_0f7a4_52 hf
set_option maxRecDepth 100000 in
theorem w_X3_isInLine_L4 {M : Mem} {q0 : Nat} {x1 : Int32} {r : Int32} (C : Cx p s m args c cX3_isInLine 4 RX3 B D Y) (hr : meth.sig.returnType = (some .boolean)) (hk : meth.locks = false) (hq0 : kd q0 = 2) : ∀ (n : Nat) (x2 : Int32) (x3 : Int32), f_X3_isInLine_L4 M q0 x1 n (x2, x3) = some r → At p l e rm_X3_isInLine s m args below meth c 4 0 0 (QQ below args s B D Y M o (some (.int r))) B D Y o 4 M [(0, .ref (B + q0)), (1, .int x1), (2, .int x2), (3, .int x3)] [] := by
  intro n
  induction n with
  | zero => intro x2 x3 hf; exact nomatch (show (none : Option Int32) = some r from hf)
  | succ n hk4 =>
    intro x2 x3 hf
    replace hf : g_X3_isInLine_L4 M q0 x1 (f_X3_isInLine_L4 M q0 x1 n) (x2, x3) = some r := hf
    dsimp only [g_X3_isInLine_L4] at hf
    refine A_iload_n C (pc := 4) 3 rfl dX3_isInLine_4 ?_
    refine A_aload_n C (pc := 5) 0 rfl dX3_isInLine_5 ?_
    refine A_g3_0 C (pc := 6) hq0 kf_X3_22 dX3_isInLine_6 ?_
    refine A_icmp_ge C (pc := 9) 40 (by decide) dX3_isInLine_9 hf (fun _ hf => ?_) (fun _ hf => ?_)
    · refine A_iload_n C (pc := 40) 1 rfl dX3_isInLine_40 ?_
      obtain ⟨z41, h41, hf⟩ := bd_i hf
      refine A_callS1 C (pc := 41) (A := [.int x1]) (rest := []) k_X3_64 ky_J6_bitCount_0f7a4 ks_J6_bitCount_0f7a4 (m_J6_bitCount_0f7a4 l B D Y o  h41) rfl rfl (Nat.le_of_ble_eq_true rfl) ⟨rfl, rfl, Nat.le_of_ble_eq_true rfl, Nat.le_of_ble_eq_true rfl⟩ ⟨Nat.zero_le _, Nat.zero_le _⟩ dX3_isInLine_41 ?_
      refine A_istore_n C (pc := 44) [(2, .int x2), (3, .int z41)] rfl (by decide) [3, 0] rfl dX3_isInLine_44 ?_
      refine A_iload_n C (pc := 45) 0 rfl dX3_isInLine_45 ?_
      refine A_iload_n C (pc := 46) 1 rfl dX3_isInLine_46 ?_
      refine A_iload_n C (pc := 47) 1 rfl dX3_isInLine_47 ?_
      refine A_iconst C (pc := 48) ic_1 dX3_isInLine_48 ?_
      refine A_isub C (pc := 49) dX3_isInLine_49 ?_
      refine A_imul C (pc := 50) dX3_isInLine_50 ?_
      refine A_iconst C (pc := 51) ic_2 dX3_isInLine_51 ?_
      refine A_idiv C (pc := 52) (by decide) dX3_isInLine_52 ?_
      refine A_icmp_ne C (pc := 53) 60 (by decide) dX3_isInLine_53 hf (fun _ hf => ?_) (fun _ hf => ?_)
      · refine A_iconst C (pc := 60) ic_0 dX3_isInLine_60 ?_
        exact R_iP C (pc := 61) hr hk nz_0 dX3_isInLine_61 hf
      · refine A_iconst C (pc := 56) ic_1 dX3_isInLine_56 ?_
        refine A_goto C (pc := 57) 61 (by decide) dX3_isInLine_57 ?_
        exact R_iP C (pc := 61) hr hk nz_1 dX3_isInLine_61 hf
    · refine A_iload_n C (pc := 12) 1 rfl dX3_isInLine_12 ?_
      refine A_iload_n C (pc := 13) 3 rfl dX3_isInLine_13 ?_
      obtain ⟨z14, h14, hf⟩ := bd_i hf
      refine A_callS1 C (pc := 14) (A := [.int x1, .int x3]) (rest := []) k_X3_30 ky_X6_has ks_X6_has (m_X6_has l B D Y o  h14) rfl rfl (Nat.le_of_ble_eq_true rfl) ⟨rfl, rfl, Nat.le_of_ble_eq_true rfl, Nat.le_of_ble_eq_true rfl⟩ ⟨Nat.zero_le _, Nat.zero_le _⟩ dX3_isInLine_14 ?_
      refine A_if_eq C (pc := 17) 34 (by decide) dX3_isInLine_17 hf (fun _ hf => ?_) (fun _ hf => ?_)
      · refine A_iinc C (pc := 34) (k0 := 3) [(0, .ref (B + q0)), (1, .int x1), (2, .int x2), (3, .int (x3 + 1))] rfl ic_1 (by decide) [1, 2, 3, 0] rfl dX3_isInLine_34 ?_
        refine A_goto C (pc := 37) 4 (by decide) dX3_isInLine_37 ?_
        exact hk4 _ _ hf
      · refine A_iload_n C (pc := 20) 2 rfl dX3_isInLine_20 ?_
        refine A_aload_n C (pc := 21) 0 rfl dX3_isInLine_21 ?_
        refine A_g3_1 C (pc := 22) hq0 kf_X3_9 dX3_isInLine_22 ?_
        refine A_iload_n C (pc := 25) 3 rfl dX3_isInLine_25 ?_
        obtain ⟨c26, hf⟩ := chk_i hf
        refine A_iald C (pc := 26) (iO1 hq0) c26 dX3_isInLine_26 ?_
        refine A_iload_n C (pc := 27) 1 rfl dX3_isInLine_27 ?_
        refine A_iand C (pc := 28) dX3_isInLine_28 ?_
        obtain ⟨z29, h29, hf⟩ := bd_i hf
        refine A_callS1 C (pc := 29) (A := [.int ((M (q0 + 1) x3.toNatClampNeg) &&& x1)]) (rest := [.int x2]) k_X3_64 ky_J6_bitCount_0f7a4 ks_J6_bitCount_0f7a4 (m_J6_bitCount_0f7a4 l B D Y o  h29) rfl rfl (Nat.le_of_ble_eq_true rfl) ⟨rfl, rfl, Nat.le_of_ble_eq_true rfl, Nat.le_of_ble_eq_true rfl⟩ ⟨Nat.zero_le _, Nat.zero_le _⟩ dX3_isInLine_29 ?_
        refine A_iadd C (pc := 32) dX3_isInLine_32 ?_
        obtain ⟨v33, e33, hf⟩ := bd_i hf
        refine A_nmI e33 ?_
        refine A_istore_n C (pc := 33) [(0, .ref (B + q0)), (1, .int x1), (2, .int v33), (3, .int x3)] rfl (by decide) [1, 2, 0, 3] rfl dX3_isInLine_33 ?_
        refine A_iinc C (pc := 34) (k0 := 3) [(0, .ref (B + q0)), (1, .int x1), (2, .int v33), (3, .int (x3 + 1))] rfl ic_1 (by decide) [1, 2, 3, 0] rfl dX3_isInLine_34 ?_
        refine A_goto C (pc := 37) 4 (by decide) dX3_isInLine_37 ?_
        exact hk4 _ _ hf
set_option maxRecDepth 100000 in
theorem m_X3_isInLine (l : Launch) (B : Nat) (D : va_G) (Y : Nat → ClassId) (o : Ou) {M : Mem} {q0 : Nat} {x1 : Int32} {r : Int32} (hq0 : kd q0 = 2) (hf : f_X3_isInLine M q0 x1 = some r) : MW l yX3_isInLine cX3_isInLine 4 (some .boolean) rm_X3_isInLine B D Y o [.ref (B + q0), .int x1] M M (some (.int r)) := by
  refine ofAt (L0 := [(0, .ref (B + q0)), (1, .int x1)]) (by decide +kernel) (Nat.le_of_ble_eq_true rfl) rfl (fun p e s m args below meth c C hr hk => ?_)
  dsimp only [f_X3_isInLine] at hf
  refine A_iconst C (pc := 0) ic_0 dX3_isInLine_0 ?_
  refine A_istore_n C (pc := 1) [(0, .ref (B + q0)), (1, .int x1), (2, .int 0)] rfl (by decide) [1, 2, 0] rfl dX3_isInLine_1 ?_
  refine A_iconst C (pc := 2) ic_0 dX3_isInLine_2 ?_
  refine A_istore_n C (pc := 3) [(0, .ref (B + q0)), (1, .int x1), (2, .int 0), (3, .int 0)] rfl (by decide) [1, 2, 3, 0] rfl dX3_isInLine_3 ?_
  exact w_X3_isInLine_L4 C hr hk hq0 FU _ _  hf
set_option maxRecDepth 100000 in
theorem w_X0_longestWithin_L4 {M : Mem} {q0 : Nat} {x1 : Int32} {r : Int32} (C : Cx p s m args c cX0_longestWithin 4 RX0 B D Y) (hr : meth.sig.returnType = (some .int)) (hk : meth.locks = false) (hq0 : kd q0 = 2) : ∀ (n : Nat) (x2 : Int32) (x3 : Int32), f_X0_longestWithin_L4 M q0 x1 n (x2, x3) = some r → At p l e rm_X0_longestWithin s m args below meth c 4 0 0 (QQ below args s B D Y M o (some (.int r))) B D Y o 4 M [(0, .ref (B + q0)), (1, .int x1), (2, .int x2), (3, .int x3)] [] := by
  intro n
  induction n with
  | zero => intro x2 x3 hf; exact nomatch (show (none : Option Int32) = some r from hf)
  | succ n hk4 =>
    intro x2 x3 hf
    replace hf : g_X0_longestWithin_L4 M q0 x1 (f_X0_longestWithin_L4 M q0 x1 n) (x2, x3) = some r := hf
    dsimp only [g_X0_longestWithin_L4] at hf
    refine A_iload_n C (pc := 4) 3 rfl dX0_longestWithin_4 ?_
    refine A_aload_n C (pc := 5) 0 rfl dX0_longestWithin_5 ?_
    obtain ⟨z6, h6, hf⟩ := bd_i hf
    refine A_callV1 C (pc := 6) (A := []) (rest := [.int x3]) k_X0_18 ky_X3_setLimit kv_X3_setLimit (m_X3_setLimit l B D Y o hq0 h6) (kO hq0).1 (ent2 hq0) rfl rfl rfl (Nat.le_of_ble_eq_true rfl) ⟨rfl, rfl, Nat.le_of_ble_eq_true rfl, Nat.le_of_ble_eq_true rfl⟩ ⟨Nat.zero_le _, Nat.zero_le _⟩ dX0_longestWithin_6 ?_
    refine A_icmp_ge C (pc := 9) 43 (by decide) dX0_longestWithin_9 hf (fun _ hf => ?_) (fun _ hf => ?_)
    · refine A_iload_n C (pc := 43) 2 rfl dX0_longestWithin_43 ?_
      exact R_iP C (pc := 44) hr hk rfl dX0_longestWithin_44 hf
    · refine A_iload_n C (pc := 12) 3 rfl dX0_longestWithin_12 ?_
      refine A_iload_n C (pc := 13) 1 rfl dX0_longestWithin_13 ?_
      obtain ⟨z14, h14, hf⟩ := bd_i hf
      refine A_callS1 C (pc := 14) (A := [.int x3, .int x1]) (rest := []) k_X0_24 ky_X6_isWithin ks_X6_isWithin (m_X6_isWithin l B D Y o  h14) rfl rfl (Nat.le_of_ble_eq_true rfl) ⟨rfl, rfl, Nat.le_of_ble_eq_true rfl, Nat.le_of_ble_eq_true rfl⟩ ⟨Nat.zero_le _, Nat.zero_le _⟩ dX0_longestWithin_14 ?_
      refine A_if_eq C (pc := 17) 37 (by decide) dX0_longestWithin_17 hf (fun _ hf => ?_) (fun _ hf => ?_)
      · refine A_iinc C (pc := 37) (k0 := 3) [(0, .ref (B + q0)), (1, .int x1), (2, .int x2), (3, .int (x3 + 1))] rfl ic_1 (by decide) [1, 2, 3, 0] rfl dX0_longestWithin_37 ?_
        refine A_goto C (pc := 40) 4 (by decide) dX0_longestWithin_40 ?_
        exact hk4 _ _ hf
      · refine A_aload_n C (pc := 20) 0 rfl dX0_longestWithin_20 ?_
        refine A_iload_n C (pc := 21) 3 rfl dX0_longestWithin_21 ?_
        obtain ⟨z22, h22, hf⟩ := bd_i hf
        refine A_callV1 C (pc := 22) (A := [.int x3]) (rest := []) k_X0_28 ky_X3_isInLine kv_X3_isInLine (m_X3_isInLine l B D Y o hq0 h22) (kO hq0).1 (ent2 hq0) rfl rfl rfl (Nat.le_of_ble_eq_true rfl) ⟨rfl, rfl, Nat.le_of_ble_eq_true rfl, Nat.le_of_ble_eq_true rfl⟩ ⟨Nat.zero_le _, Nat.zero_le _⟩ dX0_longestWithin_22 ?_
        refine A_if_eq C (pc := 25) 37 (by decide) dX0_longestWithin_25 hf (fun _ hf => ?_) (fun _ hf => ?_)
        · refine A_iinc C (pc := 37) (k0 := 3) [(0, .ref (B + q0)), (1, .int x1), (2, .int x2), (3, .int (x3 + 1))] rfl ic_1 (by decide) [1, 2, 3, 0] rfl dX0_longestWithin_37 ?_
          refine A_goto C (pc := 40) 4 (by decide) dX0_longestWithin_40 ?_
          exact hk4 _ _ hf
        · refine A_iload_n C (pc := 28) 2 rfl dX0_longestWithin_28 ?_
          refine A_iload_n C (pc := 29) 3 rfl dX0_longestWithin_29 ?_
          obtain ⟨z30, h30, hf⟩ := bd_i hf
          refine A_callS1 C (pc := 30) (A := [.int x3]) (rest := [.int x2]) k_X0_32 ky_J6_bitCount_0f7a4 ks_J6_bitCount_0f7a4 (m_J6_bitCount_0f7a4 l B D Y o  h30) rfl rfl (Nat.le_of_ble_eq_true rfl) ⟨rfl, rfl, Nat.le_of_ble_eq_true rfl, Nat.le_of_ble_eq_true rfl⟩ ⟨Nat.zero_le _, Nat.zero_le _⟩ dX0_longestWithin_30 ?_
          refine A_mmax C (pc := 33) km_X0_38 kmc_max kms_max km_ini (Nat.le_of_ble_eq_true rfl) (Nat.le_of_ble_eq_true rfl) ⟨Nat.zero_le _, Nat.zero_le _⟩ dX0_longestWithin_33 ?_
          obtain ⟨v36, e36, hf⟩ := bd_i hf
          refine A_nmI e36 ?_
          refine A_istore_n C (pc := 36) [(0, .ref (B + q0)), (1, .int x1), (2, .int v36), (3, .int x3)] rfl (by decide) [1, 2, 0, 3] rfl dX0_longestWithin_36 ?_
          refine A_iinc C (pc := 37) (k0 := 3) [(0, .ref (B + q0)), (1, .int x1), (2, .int v36), (3, .int (x3 + 1))] rfl ic_1 (by decide) [1, 2, 3, 0] rfl dX0_longestWithin_37 ?_
          refine A_goto C (pc := 40) 4 (by decide) dX0_longestWithin_40 ?_
          exact hk4 _ _ hf
set_option maxRecDepth 100000 in
theorem m_X0_longestWithin (l : Launch) (B : Nat) (D : va_G) (Y : Nat → ClassId) (o : Ou) {M : Mem} {q0 : Nat} {x1 : Int32} {r : Int32} (hq0 : kd q0 = 2) (hf : f_X0_longestWithin M q0 x1 = some r) : MW l yX0_longestWithin cX0_longestWithin 4 (some .int) rm_X0_longestWithin B D Y o [.ref (B + q0), .int x1] M M (some (.int r)) := by
  refine ofAt (L0 := [(0, .ref (B + q0)), (1, .int x1)]) (by decide +kernel) (Nat.le_of_ble_eq_true rfl) rfl (fun p e s m args below meth c C hr hk => ?_)
  dsimp only [f_X0_longestWithin] at hf
  refine A_iconst C (pc := 0) ic_0 dX0_longestWithin_0 ?_
  refine A_istore_n C (pc := 1) [(0, .ref (B + q0)), (1, .int x1), (2, .int 0)] rfl (by decide) [1, 2, 0] rfl dX0_longestWithin_1 ?_
  refine A_iconst C (pc := 2) ic_0 dX0_longestWithin_2 ?_
  refine A_istore_n C (pc := 3) [(0, .ref (B + q0)), (1, .int x1), (2, .int 0), (3, .int 0)] rfl (by decide) [1, 2, 3, 0] rfl dX0_longestWithin_3 ?_
  exact w_X0_longestWithin_L4 C hr hk hq0 FU _ _  hf
set_option maxRecDepth 100000 in
theorem w_X3_isUnordered_L2 {M : Mem} {q0 : Nat} {x1 : Int32} {r : Int32} (C : Cx p s m args c cX3_isUnordered 3 RX3 B D Y) (hr : meth.sig.returnType = (some .boolean)) (hk : meth.locks = false) (hq0 : kd q0 = 2) : ∀ (n : Nat) (x2 : Int32), f_X3_isUnordered_L2 M q0 x1 n x2 = some r → At p l e rm_X3_isUnordered s m args below meth c 3 0 0 (QQ below args s B D Y M o (some (.int r))) B D Y o 2 M [(0, .ref (B + q0)), (1, .int x1), (2, .int x2)] [] := by
  intro n
  induction n with
  | zero => intro x2 hf; exact nomatch (show (none : Option Int32) = some r from hf)
  | succ n hk2 =>
    intro x2 hf
    replace hf : g_X3_isUnordered_L2 M q0 x1 (f_X3_isUnordered_L2 M q0 x1 n) x2 = some r := hf
    dsimp only [g_X3_isUnordered_L2] at hf
    refine A_iload_n C (pc := 2) 2 rfl dX3_isUnordered_2 ?_
    refine A_aload_n C (pc := 3) 0 rfl dX3_isUnordered_3 ?_
    refine A_g3_0 C (pc := 4) hq0 kf_X3_22 dX3_isUnordered_4 ?_
    refine A_icmp_ge C (pc := 7) 37 (by decide) dX3_isUnordered_7 hf (fun _ hf => ?_) (fun _ hf => ?_)
    · refine A_iconst C (pc := 37) ic_1 dX3_isUnordered_37 ?_
      exact R_iP C (pc := 38) hr hk nz_1 dX3_isUnordered_38 hf
    · refine A_iload_n C (pc := 10) 1 rfl dX3_isUnordered_10 ?_
      refine A_iload_n C (pc := 11) 2 rfl dX3_isUnordered_11 ?_
      obtain ⟨z12, h12, hf⟩ := bd_i hf
      refine A_callS1 C (pc := 12) (A := [.int x1, .int x2]) (rest := []) k_X3_30 ky_X6_has ks_X6_has (m_X6_has l B D Y o  h12) rfl rfl (Nat.le_of_ble_eq_true rfl) ⟨rfl, rfl, Nat.le_of_ble_eq_true rfl, Nat.le_of_ble_eq_true rfl⟩ ⟨Nat.zero_le _, Nat.zero_le _⟩ dX3_isUnordered_12 ?_
      refine A_if_eq C (pc := 15) 31 (by decide) dX3_isUnordered_15 hf (fun _ hf => ?_) (fun _ hf => ?_)
      · refine A_iinc C (pc := 31) (k0 := 2) [(0, .ref (B + q0)), (1, .int x1), (2, .int (x2 + 1))] rfl ic_1 (by decide) [1, 2, 0] rfl dX3_isUnordered_31 ?_
        refine A_goto C (pc := 34) 2 (by decide) dX3_isUnordered_34 ?_
        exact hk2 _ hf
      · refine A_aload_n C (pc := 18) 0 rfl dX3_isUnordered_18 ?_
        refine A_g3_1 C (pc := 19) hq0 kf_X3_9 dX3_isUnordered_19 ?_
        refine A_iload_n C (pc := 22) 2 rfl dX3_isUnordered_22 ?_
        obtain ⟨c23, hf⟩ := chk_i hf
        refine A_iald C (pc := 23) (iO1 hq0) c23 dX3_isUnordered_23 ?_
        refine A_iload_n C (pc := 24) 1 rfl dX3_isUnordered_24 ?_
        refine A_iand C (pc := 25) dX3_isUnordered_25 ?_
        refine A_if_eq C (pc := 26) 31 (by decide) dX3_isUnordered_26 hf (fun _ hf => ?_) (fun _ hf => ?_)
        · refine A_iinc C (pc := 31) (k0 := 2) [(0, .ref (B + q0)), (1, .int x1), (2, .int (x2 + 1))] rfl ic_1 (by decide) [1, 2, 0] rfl dX3_isUnordered_31 ?_
          refine A_goto C (pc := 34) 2 (by decide) dX3_isUnordered_34 ?_
          exact hk2 _ hf
        · refine A_iconst C (pc := 29) ic_0 dX3_isUnordered_29 ?_
          exact R_iP C (pc := 30) hr hk nz_0 dX3_isUnordered_30 hf
set_option maxRecDepth 100000 in
theorem m_X3_isUnordered (l : Launch) (B : Nat) (D : va_G) (Y : Nat → ClassId) (o : Ou) {M : Mem} {q0 : Nat} {x1 : Int32} {r : Int32} (hq0 : kd q0 = 2) (hf : f_X3_isUnordered M q0 x1 = some r) : MW l yX3_isUnordered cX3_isUnordered 3 (some .boolean) rm_X3_isUnordered B D Y o [.ref (B + q0), .int x1] M M (some (.int r)) := by
  refine ofAt (L0 := [(0, .ref (B + q0)), (1, .int x1)]) (by decide +kernel) (Nat.le_of_ble_eq_true rfl) rfl (fun p e s m args below meth c C hr hk => ?_)
  dsimp only [f_X3_isUnordered] at hf
  refine A_iconst C (pc := 0) ic_0 dX3_isUnordered_0 ?_
  refine A_istore_n C (pc := 1) [(0, .ref (B + q0)), (1, .int x1), (2, .int 0)] rfl (by decide) [1, 2, 0] rfl dX3_isUnordered_1 ?_
  exact w_X3_isUnordered_L2 C hr hk hq0 FU _  hf
set_option maxRecDepth 100000 in
theorem w_X0_mostApart_L4 {M : Mem} {q0 : Nat} {r : Int32} (C : Cx p s m args c cX0_mostApart 3 RX0 B D Y) (hr : meth.sig.returnType = (some .int)) (hk : meth.locks = false) (hq0 : kd q0 = 2) : ∀ (n : Nat) (x1 : Int32) (x2 : Int32), f_X0_mostApart_L4 M q0 n (x1, x2) = some r → At p l e rm_X0_mostApart s m args below meth c 3 0 0 (QQ below args s B D Y M o (some (.int r))) B D Y o 4 M [(0, .ref (B + q0)), (1, .int x1), (2, .int x2)] [] := by
  intro n
  induction n with
  | zero => intro x1 x2 hf; exact nomatch (show (none : Option Int32) = some r from hf)
  | succ n hk4 =>
    intro x1 x2 hf
    replace hf : g_X0_mostApart_L4 M q0 (f_X0_mostApart_L4 M q0 n) (x1, x2) = some r := hf
    dsimp only [g_X0_mostApart_L4] at hf
    refine A_iload_n C (pc := 4) 2 rfl dX0_mostApart_4 ?_
    refine A_aload_n C (pc := 5) 0 rfl dX0_mostApart_5 ?_
    obtain ⟨z6, h6, hf⟩ := bd_i hf
    refine A_callV1 C (pc := 6) (A := []) (rest := [.int x2]) k_X0_18 ky_X3_setLimit kv_X3_setLimit (m_X3_setLimit l B D Y o hq0 h6) (kO hq0).1 (ent2 hq0) rfl rfl rfl (Nat.le_of_ble_eq_true rfl) ⟨rfl, rfl, Nat.le_of_ble_eq_true rfl, Nat.le_of_ble_eq_true rfl⟩ ⟨Nat.zero_le _, Nat.zero_le _⟩ dX0_mostApart_6 ?_
    refine A_icmp_ge C (pc := 9) 35 (by decide) dX0_mostApart_9 hf (fun _ hf => ?_) (fun _ hf => ?_)
    · refine A_iload_n C (pc := 35) 1 rfl dX0_mostApart_35 ?_
      exact R_iP C (pc := 36) hr hk rfl dX0_mostApart_36 hf
    · refine A_aload_n C (pc := 12) 0 rfl dX0_mostApart_12 ?_
      refine A_iload_n C (pc := 13) 2 rfl dX0_mostApart_13 ?_
      obtain ⟨z14, h14, hf⟩ := bd_i hf
      refine A_callV1 C (pc := 14) (A := [.int x2]) (rest := []) k_X0_44 ky_X3_isUnordered kv_X3_isUnordered (m_X3_isUnordered l B D Y o hq0 h14) (kO hq0).1 (ent2 hq0) rfl rfl rfl (Nat.le_of_ble_eq_true rfl) ⟨rfl, rfl, Nat.le_of_ble_eq_true rfl, Nat.le_of_ble_eq_true rfl⟩ ⟨Nat.zero_le _, Nat.zero_le _⟩ dX0_mostApart_14 ?_
      refine A_if_eq C (pc := 17) 29 (by decide) dX0_mostApart_17 hf (fun _ hf => ?_) (fun _ hf => ?_)
      · refine A_iinc C (pc := 29) (k0 := 2) [(0, .ref (B + q0)), (1, .int x1), (2, .int (x2 + 1))] rfl ic_1 (by decide) [1, 2, 0] rfl dX0_mostApart_29 ?_
        refine A_goto C (pc := 32) 4 (by decide) dX0_mostApart_32 ?_
        exact hk4 _ _ hf
      · refine A_iload_n C (pc := 20) 1 rfl dX0_mostApart_20 ?_
        refine A_iload_n C (pc := 21) 2 rfl dX0_mostApart_21 ?_
        obtain ⟨z22, h22, hf⟩ := bd_i hf
        refine A_callS1 C (pc := 22) (A := [.int x2]) (rest := [.int x1]) k_X0_32 ky_J6_bitCount_0f7a4 ks_J6_bitCount_0f7a4 (m_J6_bitCount_0f7a4 l B D Y o  h22) rfl rfl (Nat.le_of_ble_eq_true rfl) ⟨rfl, rfl, Nat.le_of_ble_eq_true rfl, Nat.le_of_ble_eq_true rfl⟩ ⟨Nat.zero_le _, Nat.zero_le _⟩ dX0_mostApart_22 ?_
        refine A_mmax C (pc := 25) km_X0_38 kmc_max kms_max km_ini (Nat.le_of_ble_eq_true rfl) (Nat.le_of_ble_eq_true rfl) ⟨Nat.zero_le _, Nat.zero_le _⟩ dX0_mostApart_25 ?_
        obtain ⟨v28, e28, hf⟩ := bd_i hf
        refine A_nmI e28 ?_
        refine A_istore_n C (pc := 28) [(0, .ref (B + q0)), (1, .int v28), (2, .int x2)] rfl (by decide) [1, 0, 2] rfl dX0_mostApart_28 ?_
        refine A_iinc C (pc := 29) (k0 := 2) [(0, .ref (B + q0)), (1, .int v28), (2, .int (x2 + 1))] rfl ic_1 (by decide) [1, 2, 0] rfl dX0_mostApart_29 ?_
        refine A_goto C (pc := 32) 4 (by decide) dX0_mostApart_32 ?_
        exact hk4 _ _ hf
set_option maxRecDepth 100000 in
theorem m_X0_mostApart (l : Launch) (B : Nat) (D : va_G) (Y : Nat → ClassId) (o : Ou) {M : Mem} {q0 : Nat} {r : Int32} (hq0 : kd q0 = 2) (hf : f_X0_mostApart M q0 = some r) : MW l yX0_mostApart cX0_mostApart 3 (some .int) rm_X0_mostApart B D Y o [.ref (B + q0)] M M (some (.int r)) := by
  refine ofAt (L0 := [(0, .ref (B + q0))]) (by decide +kernel) (Nat.le_of_ble_eq_true rfl) rfl (fun p e s m args below meth c C hr hk => ?_)
  dsimp only [f_X0_mostApart] at hf
  refine A_iconst C (pc := 0) ic_0 dX0_mostApart_0 ?_
  refine A_istore_n C (pc := 1) [(0, .ref (B + q0)), (1, .int 0)] rfl (by decide) [1, 0] rfl dX0_mostApart_1 ?_
  refine A_iconst C (pc := 2) ic_0 dX0_mostApart_2 ?_
  refine A_istore_n C (pc := 3) [(0, .ref (B + q0)), (1, .int 0), (2, .int 0)] rfl (by decide) [1, 2, 0] rfl dX0_mostApart_3 ?_
  exact w_X0_mostApart_L4 C hr hk hq0 FU _ _  hf
set_option maxRecDepth 100000 in
theorem w_X0_apartCount_L4 {M : Mem} {q0 : Nat} {r : Int32} (C : Cx p s m args c cX0_apartCount 3 RX0 B D Y) (hr : meth.sig.returnType = (some .int)) (hk : meth.locks = false) (hq0 : kd q0 = 2) : ∀ (n : Nat) (x1 : Int32) (x2 : Int32), f_X0_apartCount_L4 M q0 n (x1, x2) = some r → At p l e rm_X0_apartCount s m args below meth c 3 0 0 (QQ below args s B D Y M o (some (.int r))) B D Y o 4 M [(0, .ref (B + q0)), (1, .int x1), (2, .int x2)] [] := by
  intro n
  induction n with
  | zero => intro x1 x2 hf; exact nomatch (show (none : Option Int32) = some r from hf)
  | succ n hk4 =>
    intro x1 x2 hf
    replace hf : g_X0_apartCount_L4 M q0 (f_X0_apartCount_L4 M q0 n) (x1, x2) = some r := hf
    dsimp only [g_X0_apartCount_L4] at hf
    refine A_iload_n C (pc := 4) 2 rfl dX0_apartCount_4 ?_
    refine A_aload_n C (pc := 5) 0 rfl dX0_apartCount_5 ?_
    obtain ⟨z6, h6, hf⟩ := bd_i hf
    refine A_callV1 C (pc := 6) (A := []) (rest := [.int x2]) k_X0_18 ky_X3_setLimit kv_X3_setLimit (m_X3_setLimit l B D Y o hq0 h6) (kO hq0).1 (ent2 hq0) rfl rfl rfl (Nat.le_of_ble_eq_true rfl) ⟨rfl, rfl, Nat.le_of_ble_eq_true rfl, Nat.le_of_ble_eq_true rfl⟩ ⟨Nat.zero_le _, Nat.zero_le _⟩ dX0_apartCount_6 ?_
    refine A_icmp_ge C (pc := 9) 29 (by decide) dX0_apartCount_9 hf (fun _ hf => ?_) (fun _ hf => ?_)
    · refine A_iload_n C (pc := 29) 1 rfl dX0_apartCount_29 ?_
      exact R_iP C (pc := 30) hr hk rfl dX0_apartCount_30 hf
    · refine A_aload_n C (pc := 12) 0 rfl dX0_apartCount_12 ?_
      refine A_iload_n C (pc := 13) 2 rfl dX0_apartCount_13 ?_
      obtain ⟨z14, h14, hf⟩ := bd_i hf
      refine A_callV1 C (pc := 14) (A := [.int x2]) (rest := []) k_X0_44 ky_X3_isUnordered kv_X3_isUnordered (m_X3_isUnordered l B D Y o hq0 h14) (kO hq0).1 (ent2 hq0) rfl rfl rfl (Nat.le_of_ble_eq_true rfl) ⟨rfl, rfl, Nat.le_of_ble_eq_true rfl, Nat.le_of_ble_eq_true rfl⟩ ⟨Nat.zero_le _, Nat.zero_le _⟩ dX0_apartCount_14 ?_
      refine A_if_eq C (pc := 17) 23 (by decide) dX0_apartCount_17 hf (fun _ hf => ?_) (fun _ hf => ?_)
      · refine A_iinc C (pc := 23) (k0 := 2) [(0, .ref (B + q0)), (1, .int x1), (2, .int (x2 + 1))] rfl ic_1 (by decide) [1, 2, 0] rfl dX0_apartCount_23 ?_
        refine A_goto C (pc := 26) 4 (by decide) dX0_apartCount_26 ?_
        exact hk4 _ _ hf
      · refine A_iinc C (pc := 20) (k0 := 1) [(0, .ref (B + q0)), (1, .int (x1 + 1)), (2, .int x2)] rfl ic_1 (by decide) [1, 0, 2] rfl dX0_apartCount_20 ?_
        refine A_iinc C (pc := 23) (k0 := 2) [(0, .ref (B + q0)), (1, .int (x1 + 1)), (2, .int (x2 + 1))] rfl ic_1 (by decide) [1, 2, 0] rfl dX0_apartCount_23 ?_
        refine A_goto C (pc := 26) 4 (by decide) dX0_apartCount_26 ?_
        exact hk4 _ _ hf
set_option maxRecDepth 100000 in
theorem m_X0_apartCount (l : Launch) (B : Nat) (D : va_G) (Y : Nat → ClassId) (o : Ou) {M : Mem} {q0 : Nat} {r : Int32} (hq0 : kd q0 = 2) (hf : f_X0_apartCount M q0 = some r) : MW l yX0_apartCount cX0_apartCount 3 (some .int) rm_X0_apartCount B D Y o [.ref (B + q0)] M M (some (.int r)) := by
  refine ofAt (L0 := [(0, .ref (B + q0))]) (by decide +kernel) (Nat.le_of_ble_eq_true rfl) rfl (fun p e s m args below meth c C hr hk => ?_)
  dsimp only [f_X0_apartCount] at hf
  refine A_iconst C (pc := 0) ic_0 dX0_apartCount_0 ?_
  refine A_istore_n C (pc := 1) [(0, .ref (B + q0)), (1, .int 0)] rfl (by decide) [1, 0] rfl dX0_apartCount_1 ?_
  refine A_iconst C (pc := 2) ic_0 dX0_apartCount_2 ?_
  refine A_istore_n C (pc := 3) [(0, .ref (B + q0)), (1, .int 0), (2, .int 0)] rfl (by decide) [1, 2, 0] rfl dX0_apartCount_3 ?_
  exact w_X0_apartCount_L4 C hr hk hq0 FU _ _  hf
set_option maxRecDepth 100000 in
theorem m_X3_all (l : Launch) (B : Nat) (D : va_G) (Y : Nat → ClassId) (o : Ou) {M : Mem} {q0 : Nat} {r : Int32} (hq0 : kd q0 = 2) (hf : f_X3_all M q0 = some r) : MW l yX3_all cX3_all 1 (some .int) rm_X3_all B D Y o [.ref (B + q0)] M M (some (.int r)) := by
  refine ofAt (L0 := [(0, .ref (B + q0))]) (by decide +kernel) (Nat.le_of_ble_eq_true rfl) rfl (fun p e s m args below meth c C hr hk => ?_)
  dsimp only [f_X3_all] at hf
  refine A_aload_n C (pc := 0) 0 rfl dX3_all_0 ?_
  obtain ⟨z1, h1, hf⟩ := bd_i hf
  refine A_callV1 C (pc := 1) (A := []) (rest := []) k_X3_18 ky_X3_setLimit kv_X3_setLimit (m_X3_setLimit l B D Y o hq0 h1) (kO hq0).1 (ent2 hq0) rfl rfl rfl (Nat.le_of_ble_eq_true rfl) ⟨rfl, rfl, Nat.le_of_ble_eq_true rfl, Nat.le_of_ble_eq_true rfl⟩ ⟨Nat.zero_le _, Nat.zero_le _⟩ dX3_all_1 ?_
  refine A_iconst C (pc := 4) ic_1 dX3_all_4 ?_
  refine A_isub C (pc := 5) dX3_all_5 ?_
  exact R_iP C (pc := 6) hr hk rfl dX3_all_6 hf
set_option maxRecDepth 100000 in
theorem w_X3_leastOf_L4 {M : Mem} {q0 : Nat} {x1 : Int32} {r : Int32} (C : Cx p s m args c cX3_leastOf 4 RX3 B D Y) (hr : meth.sig.returnType = (some .int)) (hk : meth.locks = false) (hq0 : kd q0 = 2) : ∀ (n : Nat) (x2 : Int32) (x3 : Int32), f_X3_leastOf_L4 M q0 x1 n (x2, x3) = some r → At p l e rm_X3_leastOf s m args below meth c 4 0 0 (QQ below args s B D Y M o (some (.int r))) B D Y o 4 M [(0, .ref (B + q0)), (1, .int x1), (2, .int x2), (3, .int x3)] [] := by
  intro n
  induction n with
  | zero => intro x2 x3 hf; exact nomatch (show (none : Option Int32) = some r from hf)
  | succ n hk4 =>
    intro x2 x3 hf
    replace hf : g_X3_leastOf_L4 M q0 x1 (f_X3_leastOf_L4 M q0 x1 n) (x2, x3) = some r := hf
    dsimp only [g_X3_leastOf_L4] at hf
    refine A_iload_n C (pc := 4) 3 rfl dX3_leastOf_4 ?_
    refine A_aload_n C (pc := 5) 0 rfl dX3_leastOf_5 ?_
    refine A_g3_0 C (pc := 6) hq0 kf_X3_22 dX3_leastOf_6 ?_
    refine A_icmp_ge C (pc := 9) 43 (by decide) dX3_leastOf_9 hf (fun _ hf => ?_) (fun _ hf => ?_)
    · refine A_iload_n C (pc := 43) 2 rfl dX3_leastOf_43 ?_
      exact R_iP C (pc := 44) hr hk rfl dX3_leastOf_44 hf
    · refine A_iload_n C (pc := 12) 1 rfl dX3_leastOf_12 ?_
      refine A_iload_n C (pc := 13) 3 rfl dX3_leastOf_13 ?_
      obtain ⟨z14, h14, hf⟩ := bd_i hf
      refine A_callS1 C (pc := 14) (A := [.int x1, .int x3]) (rest := []) k_X3_30 ky_X6_has ks_X6_has (m_X6_has l B D Y o  h14) rfl rfl (Nat.le_of_ble_eq_true rfl) ⟨rfl, rfl, Nat.le_of_ble_eq_true rfl, Nat.le_of_ble_eq_true rfl⟩ ⟨Nat.zero_le _, Nat.zero_le _⟩ dX3_leastOf_14 ?_
      refine A_if_eq C (pc := 17) 37 (by decide) dX3_leastOf_17 hf (fun _ hf => ?_) (fun _ hf => ?_)
      · refine A_iinc C (pc := 37) (k0 := 3) [(0, .ref (B + q0)), (1, .int x1), (2, .int x2), (3, .int (x3 + 1))] rfl ic_1 (by decide) [1, 2, 3, 0] rfl dX3_leastOf_37 ?_
        refine A_goto C (pc := 40) 4 (by decide) dX3_leastOf_40 ?_
        exact hk4 _ _ hf
      · refine A_aload_n C (pc := 20) 0 rfl dX3_leastOf_20 ?_
        refine A_g3_1 C (pc := 21) hq0 kf_X3_9 dX3_leastOf_21 ?_
        refine A_iload_n C (pc := 24) 3 rfl dX3_leastOf_24 ?_
        obtain ⟨c25, hf⟩ := chk_i hf
        refine A_iald C (pc := 25) (iO1 hq0) c25 dX3_leastOf_25 ?_
        refine A_iload_n C (pc := 26) 1 rfl dX3_leastOf_26 ?_
        refine A_iand C (pc := 27) dX3_leastOf_27 ?_
        refine A_if_ne C (pc := 28) 37 (by decide) dX3_leastOf_28 hf (fun _ hf => ?_) (fun _ hf => ?_)
        · refine A_iinc C (pc := 37) (k0 := 3) [(0, .ref (B + q0)), (1, .int x1), (2, .int x2), (3, .int (x3 + 1))] rfl ic_1 (by decide) [1, 2, 3, 0] rfl dX3_leastOf_37 ?_
          refine A_goto C (pc := 40) 4 (by decide) dX3_leastOf_40 ?_
          exact hk4 _ _ hf
        · refine A_iload_n C (pc := 31) 2 rfl dX3_leastOf_31 ?_
          refine A_iconst C (pc := 32) ic_1 dX3_leastOf_32 ?_
          refine A_iload_n C (pc := 33) 3 rfl dX3_leastOf_33 ?_
          refine A_ishl C (pc := 34) dX3_leastOf_34 ?_
          refine A_ior C (pc := 35) dX3_leastOf_35 ?_
          obtain ⟨v36, e36, hf⟩ := bd_i hf
          refine A_nmI e36 ?_
          refine A_istore_n C (pc := 36) [(0, .ref (B + q0)), (1, .int x1), (2, .int v36), (3, .int x3)] rfl (by decide) [1, 2, 0, 3] rfl dX3_leastOf_36 ?_
          refine A_iinc C (pc := 37) (k0 := 3) [(0, .ref (B + q0)), (1, .int x1), (2, .int v36), (3, .int (x3 + 1))] rfl ic_1 (by decide) [1, 2, 3, 0] rfl dX3_leastOf_37 ?_
          refine A_goto C (pc := 40) 4 (by decide) dX3_leastOf_40 ?_
          exact hk4 _ _ hf
set_option maxRecDepth 100000 in
theorem m_X3_leastOf (l : Launch) (B : Nat) (D : va_G) (Y : Nat → ClassId) (o : Ou) {M : Mem} {q0 : Nat} {x1 : Int32} {r : Int32} (hq0 : kd q0 = 2) (hf : f_X3_leastOf M q0 x1 = some r) : MW l yX3_leastOf cX3_leastOf 4 (some .int) rm_X3_leastOf B D Y o [.ref (B + q0), .int x1] M M (some (.int r)) := by
  refine ofAt (L0 := [(0, .ref (B + q0)), (1, .int x1)]) (by decide +kernel) (Nat.le_of_ble_eq_true rfl) rfl (fun p e s m args below meth c C hr hk => ?_)
  dsimp only [f_X3_leastOf] at hf
  refine A_iconst C (pc := 0) ic_0 dX3_leastOf_0 ?_
  refine A_istore_n C (pc := 1) [(0, .ref (B + q0)), (1, .int x1), (2, .int 0)] rfl (by decide) [1, 2, 0] rfl dX3_leastOf_1 ?_
  refine A_iconst C (pc := 2) ic_0 dX3_leastOf_2 ?_
  refine A_istore_n C (pc := 3) [(0, .ref (B + q0)), (1, .int x1), (2, .int 0), (3, .int 0)] rfl (by decide) [1, 2, 3, 0] rfl dX3_leastOf_3 ?_
  exact w_X3_leastOf_L4 C hr hk hq0 FU _ _  hf
set_option maxRecDepth 100000 in
theorem w_X0_layerCount_L9 {M : Mem} {q0 : Nat} {r : Int32} (C : Cx p s m args c cX0_layerCount 4 RX0 B D Y) (hr : meth.sig.returnType = (some .int)) (hk : meth.locks = false) (hq0 : kd q0 = 2) : ∀ (n : Nat) (x1 : Int32) (x2 : Int32) (x3 : Int32), f_X0_layerCount_L9 M q0 n (x1, x2, x3) = some r → At p l e rm_X0_layerCount s m args below meth c 4 0 0 (QQ below args s B D Y M o (some (.int r))) B D Y o 9 M [(0, .ref (B + q0)), (1, .int x1), (2, .int x2), (3, .int x3)] [] := by
  intro n
  induction n with
  | zero => intro x1 x2 x3 hf; exact nomatch (show (none : Option Int32) = some r from hf)
  | succ n hk9 =>
    intro x1 x2 x3 hf
    replace hf : g_X0_layerCount_L9 M q0 (f_X0_layerCount_L9 M q0 n) (x1, x2, x3) = some r := hf
    dsimp only [g_X0_layerCount_L9] at hf
    refine A_iload_n C (pc := 9) 3 rfl dX0_layerCount_9 ?_
    refine A_aload_n C (pc := 10) 0 rfl dX0_layerCount_10 ?_
    refine A_g3_0 C (pc := 11) hq0 kf_X0_50 dX0_layerCount_11 ?_
    refine A_icmp_ge C (pc := 14) 40 (by decide) dX0_layerCount_14 hf (fun _ hf => ?_) (fun _ hf => ?_)
    · refine A_iload_n C (pc := 40) 2 rfl dX0_layerCount_40 ?_
      exact R_iP C (pc := 41) hr hk rfl dX0_layerCount_41 hf
    · refine A_iload_n C (pc := 17) 1 rfl dX0_layerCount_17 ?_
      refine A_if_eq C (pc := 18) 34 (by decide) dX0_layerCount_18 hf (fun _ hf => ?_) (fun _ hf => ?_)
      · refine A_iinc C (pc := 34) (k0 := 3) [(0, .ref (B + q0)), (1, .int x1), (2, .int x2), (3, .int (x3 + 1))] rfl ic_1 (by decide) [1, 2, 3, 0] rfl dX0_layerCount_34 ?_
        refine A_goto C (pc := 37) 9 (by decide) dX0_layerCount_37 ?_
        exact hk9 _ _ _ hf
      · refine A_iload_n C (pc := 21) 1 rfl dX0_layerCount_21 ?_
        refine A_aload_n C (pc := 22) 0 rfl dX0_layerCount_22 ?_
        refine A_iload_n C (pc := 23) 1 rfl dX0_layerCount_23 ?_
        obtain ⟨z24, h24, hf⟩ := bd_i hf
        refine A_callV1 C (pc := 24) (A := [.int x1]) (rest := [.int x1]) k_X0_54 ky_X3_leastOf kv_X3_leastOf (m_X3_leastOf l B D Y o hq0 h24) (kO hq0).1 (ent2 hq0) rfl rfl rfl (Nat.le_of_ble_eq_true rfl) ⟨rfl, rfl, Nat.le_of_ble_eq_true rfl, Nat.le_of_ble_eq_true rfl⟩ ⟨Nat.zero_le _, Nat.zero_le _⟩ dX0_layerCount_24 ?_
        refine A_iconst C (pc := 27) ic_m1 dX0_layerCount_27 ?_
        refine A_ixor C (pc := 28) dX0_layerCount_28 ?_
        refine A_iand C (pc := 29) dX0_layerCount_29 ?_
        obtain ⟨v30, e30, hf⟩ := bd_i hf
        refine A_nmI e30 ?_
        refine A_istore_n C (pc := 30) [(0, .ref (B + q0)), (1, .int v30), (2, .int x2), (3, .int x3)] rfl (by decide) [1, 0, 2, 3] rfl dX0_layerCount_30 ?_
        refine A_iinc C (pc := 31) (k0 := 2) [(0, .ref (B + q0)), (1, .int v30), (2, .int (x2 + 1)), (3, .int x3)] rfl ic_1 (by decide) [1, 2, 0, 3] rfl dX0_layerCount_31 ?_
        refine A_iinc C (pc := 34) (k0 := 3) [(0, .ref (B + q0)), (1, .int v30), (2, .int (x2 + 1)), (3, .int (x3 + 1))] rfl ic_1 (by decide) [1, 2, 3, 0] rfl dX0_layerCount_34 ?_
        refine A_goto C (pc := 37) 9 (by decide) dX0_layerCount_37 ?_
        exact hk9 _ _ _ hf
set_option maxRecDepth 100000 in
theorem m_X0_layerCount (l : Launch) (B : Nat) (D : va_G) (Y : Nat → ClassId) (o : Ou) {M : Mem} {q0 : Nat} {r : Int32} (hq0 : kd q0 = 2) (hf : f_X0_layerCount M q0 = some r) : MW l yX0_layerCount cX0_layerCount 4 (some .int) rm_X0_layerCount B D Y o [.ref (B + q0)] M M (some (.int r)) := by
  refine ofAt (L0 := [(0, .ref (B + q0))]) (by decide +kernel) (Nat.le_of_ble_eq_true rfl) rfl (fun p e s m args below meth c C hr hk => ?_)
  dsimp only [f_X0_layerCount] at hf
  refine A_aload_n C (pc := 0) 0 rfl dX0_layerCount_0 ?_
  obtain ⟨z1, h1, hf⟩ := bd_i hf
  refine A_callV1 C (pc := 1) (A := []) (rest := []) k_X0_47 ky_X3_all kv_X3_all (m_X3_all l B D Y o hq0 h1) (kO hq0).1 (ent2 hq0) rfl rfl rfl (Nat.le_of_ble_eq_true rfl) ⟨rfl, rfl, Nat.le_of_ble_eq_true rfl, Nat.le_of_ble_eq_true rfl⟩ ⟨Nat.zero_le _, Nat.zero_le _⟩ dX0_layerCount_1 ?_
  refine A_istore_n C (pc := 4) [(0, .ref (B + q0)), (1, .int z1)] rfl (by decide) [1, 0] rfl dX0_layerCount_4 ?_
  refine A_iconst C (pc := 5) ic_0 dX0_layerCount_5 ?_
  refine A_istore_n C (pc := 6) [(0, .ref (B + q0)), (1, .int z1), (2, .int 0)] rfl (by decide) [1, 2, 0] rfl dX0_layerCount_6 ?_
  refine A_iconst C (pc := 7) ic_0 dX0_layerCount_7 ?_
  refine A_istore_n C (pc := 8) [(0, .ref (B + q0)), (1, .int z1), (2, .int 0), (3, .int 0)] rfl (by decide) [1, 2, 3, 0] rfl dX0_layerCount_8 ?_
  exact w_X0_layerCount_L9 C hr hk hq0 FU _ _ _  hf
set_option maxRecDepth 100000 in
theorem m_X3_hasThing (l : Launch) (B : Nat) (D : va_G) (Y : Nat → ClassId) (o : Ou) {M : Mem} {q0 : Nat} {x1 : Int32} {r : Int32} (hq0 : kd q0 = 2) (hf : f_X3_hasThing M q0 x1 = some r) : MW l yX3_hasThing cX3_hasThing 2 (some .boolean) rm_X3_hasThing B D Y o [.ref (B + q0), .int x1] M M (some (.int r)) := by
  refine ofAt (L0 := [(0, .ref (B + q0)), (1, .int x1)]) (by decide +kernel) (Nat.le_of_ble_eq_true rfl) rfl (fun p e s m args below meth c C hr hk => ?_)
  dsimp only [f_X3_hasThing] at hf
  refine A_iload_n C (pc := 0) 1 rfl dX3_hasThing_0 ?_
  refine A_if_lt C (pc := 1) 16 (by decide) dX3_hasThing_1 hf (fun _ hf => ?_) (fun _ hf => ?_)
  · refine A_iconst C (pc := 16) ic_0 dX3_hasThing_16 ?_
    exact R_iP C (pc := 17) hr hk nz_0 dX3_hasThing_17 hf
  · refine A_iload_n C (pc := 4) 1 rfl dX3_hasThing_4 ?_
    refine A_aload_n C (pc := 5) 0 rfl dX3_hasThing_5 ?_
    refine A_g3_0 C (pc := 6) hq0 kf_X3_22 dX3_hasThing_6 ?_
    refine A_icmp_ge C (pc := 9) 16 (by decide) dX3_hasThing_9 hf (fun _ hf => ?_) (fun _ hf => ?_)
    · refine A_iconst C (pc := 16) ic_0 dX3_hasThing_16 ?_
      exact R_iP C (pc := 17) hr hk nz_0 dX3_hasThing_17 hf
    · refine A_iconst C (pc := 12) ic_1 dX3_hasThing_12 ?_
      refine A_goto C (pc := 13) 17 (by decide) dX3_hasThing_13 ?_
      exact R_iP C (pc := 17) hr hk nz_1 dX3_hasThing_17 hf
set_option maxRecDepth 100000 in
theorem m_X3_isBelow (l : Launch) (B : Nat) (D : va_G) (Y : Nat → ClassId) (o : Ou) {M : Mem} {q0 : Nat} {x1 : Int32} {x2 : Int32} {r : Int32} (hq0 : kd q0 = 2) (hf : f_X3_isBelow M q0 x1 x2 = some r) : MW l yX3_isBelow cX3_isBelow 3 (some .boolean) rm_X3_isBelow B D Y o [.ref (B + q0), .int x1, .int x2] M M (some (.int r)) := by
  refine ofAt (L0 := [(0, .ref (B + q0)), (1, .int x1), (2, .int x2)]) (by decide +kernel) (Nat.le_of_ble_eq_true rfl) rfl (fun p e s m args below meth c C hr hk => ?_)
  dsimp only [f_X3_isBelow] at hf
  refine A_aload_n C (pc := 0) 0 rfl dX3_isBelow_0 ?_
  refine A_g3_1 C (pc := 1) hq0 kf_X3_9 dX3_isBelow_1 ?_
  refine A_iload_n C (pc := 4) 2 rfl dX3_isBelow_4 ?_
  obtain ⟨c5, hf⟩ := chk_i hf
  refine A_iald C (pc := 5) (iO1 hq0) c5 dX3_isBelow_5 ?_
  refine A_iload_n C (pc := 6) 1 rfl dX3_isBelow_6 ?_
  obtain ⟨z7, h7, hf⟩ := bd_i hf
  refine A_callS1 C (pc := 7) (A := [.int (M (q0 + 1) x2.toNatClampNeg), .int x1]) (rest := []) k_X3_30 ky_X6_has ks_X6_has (m_X6_has l B D Y o  h7) rfl rfl (Nat.le_of_ble_eq_true rfl) ⟨rfl, rfl, Nat.le_of_ble_eq_true rfl, Nat.le_of_ble_eq_true rfl⟩ ⟨Nat.zero_le _, Nat.zero_le _⟩ dX3_isBelow_7 ?_
  obtain ⟨c10, hf⟩ := chk_i hf
  exact R_iP C (pc := 10) hr hk (isb_nz c10) dX3_isBelow_10 hf
set_option maxRecDepth 100000 in
theorem w_X0_findsFollower_L20 {q0 : Nat} {q1 : Nat} {q2 : Nat} {x3 : Int32} {x4 : Int32} {x5 : Int32} {r : Int32 × Mem} (C : Cx p s m args c cX0_findsFollower 7 RX0 B D Y) (hr : meth.sig.returnType = (some .boolean)) (hk : meth.locks = false) {nn : Nat} {rec : (Mem × Nat × Nat × Nat × Int32 × Int32 × Int32) → Option (Int32 × Mem)} (hrec : ∀ (M : Mem) (q0 : Nat) (q1 : Nat) (q2 : Nat) (x3 : Int32) (x4 : Int32) (x5 : Int32) (r : Int32 × Mem) (hq0 : kd q0 = 2) (hq1 : IA q1 9) (hq2 : IA q2 9), rec (M, q0, q1, q2, x3, x4, x5) = some r → MW l yX0_findsFollower cX0_findsFollower 7 (some .boolean) (rm_X0_findsFollower nn) B D Y o [.ref (B + q0), .ref (B + q1), .ref (B + q2), .int x3, .int x4, .int x5] M r.2 (some (.int r.1))) (hq0 : kd q0 = 2) (hq1 : IA q1 9) (hq2 : IA q2 9) : ∀ (n : Nat) (x6 : Int32) (M : Mem), f_X0_findsFollower_L20 q0 q1 q2 x3 x4 x5 rec n (x6, M) = some r → At p l e (rm_X0_findsFollower (nn + 1)) s m args below meth c 7 0 0 (QQ below args s B D Y r.2 o (some (.int r.1))) B D Y o 20 M [(0, .ref (B + q0)), (1, .ref (B + q1)), (2, .ref (B + q2)), (3, .int x3), (4, .int x4), (5, .int x5), (6, .int x6)] [] := by
  intro n
  induction n with
  | zero => intro x6 M hf; exact nomatch (show (none : Option (Int32 × Mem)) = some r from hf)
  | succ n hk20 =>
    intro x6 M hf
    replace hf : g_X0_findsFollower_L20 q0 q1 q2 x3 x4 x5 rec (f_X0_findsFollower_L20 q0 q1 q2 x3 x4 x5 rec n) (x6, M) = some r := hf
    dsimp only [g_X0_findsFollower_L20] at hf
    refine A_iload C (pc := 20) 6 rfl dX0_findsFollower_20 ?_
    refine A_aload_n C (pc := 22) 0 rfl dX0_findsFollower_22 ?_
    refine A_g3_0 C (pc := 23) hq0 kf_X0_50 dX0_findsFollower_23 ?_
    refine A_icmp_ge C (pc := 26) 94 (by decide) dX0_findsFollower_26 hf (fun _ hf => ?_) (fun _ hf => ?_)
    · refine A_iconst C (pc := 94) ic_0 dX0_findsFollower_94 ?_
      exact R_iM C (pc := 95) hr hk nz_0 dX0_findsFollower_95 hf
    · refine A_aload_n C (pc := 29) 0 rfl dX0_findsFollower_29 ?_
      refine A_iload_n C (pc := 30) 3 rfl dX0_findsFollower_30 ?_
      refine A_iload C (pc := 31) 6 rfl dX0_findsFollower_31 ?_
      obtain ⟨z33, h33, hf⟩ := bd_i hf
      refine A_callV1 C (pc := 33) (A := [.int x3, .int x6]) (rest := []) k_X0_64 ky_X3_isBelow kv_X3_isBelow (m_X3_isBelow l B D Y o hq0 h33) (kO hq0).1 (ent2 hq0) rfl rfl rfl (Nat.le_of_ble_eq_true rfl) ⟨rfl, rfl, (by simp only [rm_X3_isBelow, rm_X0_findsFollower]; omega), (by simp only [rm_X3_isBelow, rm_X0_findsFollower]; omega)⟩ ⟨Nat.zero_le _, Nat.zero_le _⟩ dX0_findsFollower_33 ?_
      refine A_if_eq C (pc := 36) 88 (by decide) dX0_findsFollower_36 hf (fun _ hf => ?_) (fun _ hf => ?_)
      · refine A_iinc C (pc := 88) (k0 := 6) [(0, .ref (B + q0)), (1, .ref (B + q1)), (2, .ref (B + q2)), (3, .int x3), (4, .int x4), (5, .int x5), (6, .int (x6 + 1))] rfl ic_1 (by decide) [1, 2, 3, 4, 5, 6, 0] rfl dX0_findsFollower_88 ?_
        refine A_goto C (pc := 91) 20 (by decide) dX0_findsFollower_91 ?_
        exact hk20 _ _ hf
      · refine A_aload_n C (pc := 39) 2 rfl dX0_findsFollower_39 ?_
        refine A_iload C (pc := 40) 6 rfl dX0_findsFollower_40 ?_
        obtain ⟨c42, hf⟩ := chk_i hf
        refine A_iald C (pc := 42) hq2 c42 dX0_findsFollower_42 ?_
        refine A_iload C (pc := 43) 4 rfl dX0_findsFollower_43 ?_
        refine A_icmp_eq C (pc := 45) 88 (by decide) dX0_findsFollower_45 hf (fun _ hf => ?_) (fun _ hf => ?_)
        · refine A_iinc C (pc := 88) (k0 := 6) [(0, .ref (B + q0)), (1, .ref (B + q1)), (2, .ref (B + q2)), (3, .int x3), (4, .int x4), (5, .int x5), (6, .int (x6 + 1))] rfl ic_1 (by decide) [1, 2, 3, 4, 5, 6, 0] rfl dX0_findsFollower_88 ?_
          refine A_goto C (pc := 91) 20 (by decide) dX0_findsFollower_91 ?_
          exact hk20 _ _ hf
        · refine A_aload_n C (pc := 48) 2 rfl dX0_findsFollower_48 ?_
          refine A_iload C (pc := 49) 6 rfl dX0_findsFollower_49 ?_
          refine A_iload C (pc := 51) 4 rfl dX0_findsFollower_51 ?_
          obtain ⟨c53, hf⟩ := chk_i hf
          obtain ⟨M53, e53, hf⟩ := bd_i hf
          refine A_iast C (pc := 53) hq2 c53 dX0_findsFollower_53 ?_
          refine A_nmM e53 ?_
          refine A_aload_n C (pc := 54) 1 rfl dX0_findsFollower_54 ?_
          refine A_iload C (pc := 55) 6 rfl dX0_findsFollower_55 ?_
          obtain ⟨c57, hf⟩ := chk_i hf
          refine A_iald C (pc := 57) hq1 c57 dX0_findsFollower_57 ?_
          refine A_iconst C (pc := 58) ic_m1 dX0_findsFollower_58 ?_
          refine A_icmp_eq C (pc := 59) 81 (by decide) dX0_findsFollower_59 hf (fun _ hf => ?_) (fun _ hf => ?_)
          · refine A_aload_n C (pc := 81) 1 rfl dX0_findsFollower_81 ?_
            refine A_iload C (pc := 82) 6 rfl dX0_findsFollower_82 ?_
            refine A_iload_n C (pc := 84) 3 rfl dX0_findsFollower_84 ?_
            obtain ⟨c85, hf⟩ := chk_i hf
            obtain ⟨M85, e85, hf⟩ := bd_i hf
            refine A_iast C (pc := 85) hq1 c85 dX0_findsFollower_85 ?_
            refine A_nmM e85 ?_
            refine A_iconst C (pc := 86) ic_1 dX0_findsFollower_86 ?_
            exact R_iM C (pc := 87) hr hk nz_1 dX0_findsFollower_87 hf
          · refine A_aload_n C (pc := 62) 0 rfl dX0_findsFollower_62 ?_
            refine A_aload_n C (pc := 63) 1 rfl dX0_findsFollower_63 ?_
            refine A_aload_n C (pc := 64) 2 rfl dX0_findsFollower_64 ?_
            refine A_aload_n C (pc := 65) 1 rfl dX0_findsFollower_65 ?_
            refine A_iload C (pc := 66) 6 rfl dX0_findsFollower_66 ?_
            obtain ⟨c68, hf⟩ := chk_i hf
            refine A_iald C (pc := 68) hq1 c68 dX0_findsFollower_68 ?_
            refine A_iload C (pc := 69) 4 rfl dX0_findsFollower_69 ?_
            refine A_iload C (pc := 71) 5 rfl dX0_findsFollower_71 ?_
            refine A_iconst C (pc := 73) ic_1 dX0_findsFollower_73 ?_
            refine A_iadd C (pc := 74) dX0_findsFollower_74 ?_
            obtain ⟨z75, h75, hf⟩ := bd_i hf
            refine A_callS1 C (pc := 75) (A := [.ref (B + q0), .ref (B + q1), .ref (B + q2), .int (M53 q1 x6.toNatClampNeg), .int x4, .int (x5 + 1)]) (rest := []) k_X0_57 ky_X0_findsFollower ks_X0_findsFollower (hrec _ _ _ _ _ _ _ _ hq0 hq1 hq2 h75) rfl rfl (Nat.le_of_ble_eq_true rfl) ⟨rfl, rfl, (by simp only [rm_X0_findsFollower]; omega), (by simp only [rm_X0_findsFollower]; omega)⟩ ⟨Nat.zero_le _, Nat.zero_le _⟩ dX0_findsFollower_75 ?_
            refine A_if_eq C (pc := 78) 88 (by decide) dX0_findsFollower_78 hf (fun _ hf => ?_) (fun _ hf => ?_)
            · refine A_iinc C (pc := 88) (k0 := 6) [(0, .ref (B + q0)), (1, .ref (B + q1)), (2, .ref (B + q2)), (3, .int x3), (4, .int x4), (5, .int x5), (6, .int (x6 + 1))] rfl ic_1 (by decide) [1, 2, 3, 4, 5, 6, 0] rfl dX0_findsFollower_88 ?_
              refine A_goto C (pc := 91) 20 (by decide) dX0_findsFollower_91 ?_
              exact hk20 _ _ hf
            · refine A_aload_n C (pc := 81) 1 rfl dX0_findsFollower_81 ?_
              refine A_iload C (pc := 82) 6 rfl dX0_findsFollower_82 ?_
              refine A_iload_n C (pc := 84) 3 rfl dX0_findsFollower_84 ?_
              obtain ⟨c85, hf⟩ := chk_i hf
              obtain ⟨M85, e85, hf⟩ := bd_i hf
              refine A_iast C (pc := 85) hq1 c85 dX0_findsFollower_85 ?_
              refine A_nmM e85 ?_
              refine A_iconst C (pc := 86) ic_1 dX0_findsFollower_86 ?_
              exact R_iM C (pc := 87) hr hk nz_1 dX0_findsFollower_87 hf
set_option maxRecDepth 100000 in
theorem m_X0_findsFollower (l : Launch) (B : Nat) (D : va_G) (Y : Nat → ClassId) (o : Ou)  : ∀ (n : Nat) (M : Mem) (q0 : Nat) (q1 : Nat) (q2 : Nat) (x3 : Int32) (x4 : Int32) (x5 : Int32) (r : Int32 × Mem) (hq0 : kd q0 = 2) (hq1 : IA q1 9) (hq2 : IA q2 9), f_X0_findsFollower n (M, q0, q1, q2, x3, x4, x5) = some r → MW l yX0_findsFollower cX0_findsFollower 7 (some .boolean) (rm_X0_findsFollower n) B D Y o [.ref (B + q0), .ref (B + q1), .ref (B + q2), .int x3, .int x4, .int x5] M r.2 (some (.int r.1)) := by
  intro nn
  induction nn with
  | zero => intro M q0 q1 q2 x3 x4 x5 r hq0 hq1 hq2 hf; exact nomatch (show (none : Option (Int32 × Mem)) = some r from hf)
  | succ nn hrec =>
    intro M q0 q1 q2 x3 x4 x5 r hq0 hq1 hq2 hf
    replace hf : b_X0_findsFollower (f_X0_findsFollower nn) (M, q0, q1, q2, x3, x4, x5) = some r := hf
    dsimp only [b_X0_findsFollower] at hf
    refine ofAt (L0 := [(0, .ref (B + q0)), (1, .ref (B + q1)), (2, .ref (B + q2)), (3, .int x3), (4, .int x4), (5, .int x5)]) (by decide +kernel) (Nat.le_of_ble_eq_true rfl) rfl (fun p e s m args below meth c C hr hk => ?_)
    refine A_iload C (pc := 0) 5 rfl dX0_findsFollower_0 ?_
    refine A_bipush C (pc := 2) bc_9 dX0_findsFollower_2 ?_
    refine A_icmp_gt C (pc := 4) 15 (by decide) dX0_findsFollower_4 hf (fun _ hf => ?_) (fun _ hf => ?_)
    · refine A_iconst C (pc := 15) ic_0 dX0_findsFollower_15 ?_
      exact R_iM C (pc := 16) hr hk nz_0 dX0_findsFollower_16 hf
    · refine A_aload_n C (pc := 7) 0 rfl dX0_findsFollower_7 ?_
      refine A_iload_n C (pc := 8) 3 rfl dX0_findsFollower_8 ?_
      obtain ⟨z9, h9, hf⟩ := bd_i hf
      refine A_callV1 C (pc := 9) (A := [.int x3]) (rest := []) k_X0_61 ky_X3_hasThing kv_X3_hasThing (m_X3_hasThing l B D Y o hq0 h9) (kO hq0).1 (ent2 hq0) rfl rfl rfl (Nat.le_of_ble_eq_true rfl) ⟨rfl, rfl, (by simp only [rm_X3_hasThing, rm_X0_findsFollower]; omega), (by simp only [rm_X3_hasThing, rm_X0_findsFollower]; omega)⟩ ⟨Nat.zero_le _, Nat.zero_le _⟩ dX0_findsFollower_9 ?_
      refine A_if_ne C (pc := 12) 17 (by decide) dX0_findsFollower_12 hf (fun _ hf => ?_) (fun _ hf => ?_)
      · refine A_iconst C (pc := 17) ic_0 dX0_findsFollower_17 ?_
        refine A_istore C (pc := 18) [(0, .ref (B + q0)), (1, .ref (B + q1)), (2, .ref (B + q2)), (3, .int x3), (4, .int x4), (5, .int x5), (6, .int 0)] (by decide) [1, 2, 3, 4, 5, 6, 0] rfl dX0_findsFollower_18 ?_
        exact w_X0_findsFollower_L20 C hr hk hrec hq0 hq1 hq2 FU _ _  hf
      · refine A_iconst C (pc := 15) ic_0 dX0_findsFollower_15 ?_
        exact R_iM C (pc := 16) hr hk nz_0 dX0_findsFollower_16 hf
set_option maxRecDepth 100000 in
theorem w_X0_chainCover_L35 {q0 : Nat} {q1 : Nat} {r : Int32 × Mem} (C : Cx p s m args c cX0_chainCover 4 RX0 B D Y) (hr : meth.sig.returnType = (some .int)) (hk : meth.locks = false) (hq0 : kd q0 = 3) (hq1 : kd q1 = 2) : ∀ (n : Nat) (x2 : Int32) (x3 : Int32) (M : Mem), f_X0_chainCover_L35 q0 q1 n (x2, x3, M) = some r → At p l e rm_X0_chainCover s m args below meth c 4 0 0 (QQ below args s B D Y r.2 o (some (.int r.1))) B D Y o 35 M [(0, .ref (B + q0)), (1, .ref (B + q1)), (2, .int x2), (3, .int x3)] [] := by
  intro n
  induction n with
  | zero => intro x2 x3 M hf; exact nomatch (show (none : Option (Int32 × Mem)) = some r from hf)
  | succ n hk35 =>
    intro x2 x3 M hf
    replace hf : g_X0_chainCover_L35 q0 q1 (f_X0_chainCover_L35 q0 q1 n) (x2, x3, M) = some r := hf
    dsimp only [g_X0_chainCover_L35] at hf
    refine A_iload_n C (pc := 35) 3 rfl dX0_chainCover_35 ?_
    refine A_aload_n C (pc := 36) 1 rfl dX0_chainCover_36 ?_
    refine A_g3_0 C (pc := 37) hq1 kf_X0_50 dX0_chainCover_37 ?_
    refine A_icmp_ge C (pc := 40) 70 (by decide) dX0_chainCover_40 hf (fun _ hf => ?_) (fun _ hf => ?_)
    · refine A_iload_n C (pc := 70) 2 rfl dX0_chainCover_70 ?_
      exact R_iM C (pc := 71) hr hk rfl dX0_chainCover_71 hf
    · refine A_aload_n C (pc := 43) 1 rfl dX0_chainCover_43 ?_
      refine A_aload_n C (pc := 44) 0 rfl dX0_chainCover_44 ?_
      refine A_g0_0 C (pc := 45) hq0 kf_X0_9 dX0_chainCover_45 ?_
      refine A_aload_n C (pc := 48) 0 rfl dX0_chainCover_48 ?_
      refine A_g0_1 C (pc := 49) hq0 kf_X0_15 dX0_chainCover_49 ?_
      refine A_iload_n C (pc := 52) 3 rfl dX0_chainCover_52 ?_
      refine A_iload_n C (pc := 53) 3 rfl dX0_chainCover_53 ?_
      refine A_iconst C (pc := 54) ic_0 dX0_chainCover_54 ?_
      obtain ⟨z55, h55, hf⟩ := bd_i hf
      refine A_callS1 C (pc := 55) (A := [.ref (B + q1), .ref (B + (q0 + 1)), .ref (B + (q0 + 2)), .int x3, .int x3, .int 0]) (rest := []) k_X0_57 ky_X0_findsFollower ks_X0_findsFollower (m_X0_findsFollower l B D Y o RD _ _ _ _ _ _ _ _ hq1 ((iC1 hq0)) ((iC2 hq0)) h55) rfl rfl (Nat.le_of_ble_eq_true rfl) ⟨rfl, rfl, Nat.le_of_ble_eq_true rfl, Nat.le_of_ble_eq_true rfl⟩ ⟨Nat.zero_le _, Nat.zero_le _⟩ dX0_chainCover_55 ?_
      refine A_if_eq C (pc := 58) 64 (by decide) dX0_chainCover_58 hf (fun _ hf => ?_) (fun _ hf => ?_)
      · refine A_iinc C (pc := 64) (k0 := 3) [(0, .ref (B + q0)), (1, .ref (B + q1)), (2, .int x2), (3, .int (x3 + 1))] rfl ic_1 (by decide) [1, 2, 3, 0] rfl dX0_chainCover_64 ?_
        refine A_goto C (pc := 67) 35 (by decide) dX0_chainCover_67 ?_
        exact hk35 _ _ _ hf
      · refine A_iinc C (pc := 61) (k0 := 2) [(0, .ref (B + q0)), (1, .ref (B + q1)), (2, .int (x2 + (-1))), (3, .int x3)] rfl ic_m1 (by decide) [1, 2, 0, 3] rfl dX0_chainCover_61 ?_
        refine A_iinc C (pc := 64) (k0 := 3) [(0, .ref (B + q0)), (1, .ref (B + q1)), (2, .int (x2 + (-1))), (3, .int (x3 + 1))] rfl ic_1 (by decide) [1, 2, 3, 0] rfl dX0_chainCover_64 ?_
        refine A_goto C (pc := 67) 35 (by decide) dX0_chainCover_67 ?_
        exact hk35 _ _ _ hf
set_option maxRecDepth 100000 in
theorem w_X0_chainCover_L2 {q0 : Nat} {q1 : Nat} {r : Int32 × Mem} (C : Cx p s m args c cX0_chainCover 4 RX0 B D Y) (hr : meth.sig.returnType = (some .int)) (hk : meth.locks = false) (hq0 : kd q0 = 3) (hq1 : kd q1 = 2) : ∀ (n : Nat) (x2 : Int32) (M : Mem), f_X0_chainCover_L2 q0 q1 n (x2, M) = some r → At p l e rm_X0_chainCover s m args below meth c 4 0 0 (QQ below args s B D Y r.2 o (some (.int r.1))) B D Y o 2 M [(0, .ref (B + q0)), (1, .ref (B + q1)), (2, .int x2)] [] := by
  intro n
  induction n with
  | zero => intro x2 M hf; exact nomatch (show (none : Option (Int32 × Mem)) = some r from hf)
  | succ n hk2 =>
    intro x2 M hf
    replace hf : g_X0_chainCover_L2 q0 q1 (f_X0_chainCover_L2 q0 q1 n) (x2, M) = some r := hf
    dsimp only [g_X0_chainCover_L2] at hf
    refine A_iload_n C (pc := 2) 2 rfl dX0_chainCover_2 ?_
    refine A_bipush C (pc := 3) bc_9 dX0_chainCover_3 ?_
    refine A_icmp_ge C (pc := 5) 28 (by decide) dX0_chainCover_5 hf (fun _ hf => ?_) (fun _ hf => ?_)
    · refine A_aload_n C (pc := 28) 1 rfl dX0_chainCover_28 ?_
      refine A_g3_0 C (pc := 29) hq1 kf_X0_50 dX0_chainCover_29 ?_
      obtain ⟨v32, e32, hf⟩ := bd_i hf
      refine A_nmI e32 ?_
      refine A_istore_n C (pc := 32) [(0, .ref (B + q0)), (1, .ref (B + q1)), (2, .int v32)] rfl (by decide) [1, 2, 0] rfl dX0_chainCover_32 ?_
      refine A_iconst C (pc := 33) ic_0 dX0_chainCover_33 ?_
      refine A_istore_n C (pc := 34) [(0, .ref (B + q0)), (1, .ref (B + q1)), (2, .int v32), (3, .int 0)] rfl (by decide) [1, 2, 3, 0] rfl dX0_chainCover_34 ?_
      exact w_X0_chainCover_L35 C hr hk hq0 hq1 FU _ _ _  hf
    · refine A_aload_n C (pc := 8) 0 rfl dX0_chainCover_8 ?_
      refine A_g0_0 C (pc := 9) hq0 kf_X0_9 dX0_chainCover_9 ?_
      refine A_iload_n C (pc := 12) 2 rfl dX0_chainCover_12 ?_
      refine A_iconst C (pc := 13) ic_m1 dX0_chainCover_13 ?_
      obtain ⟨c14, hf⟩ := chk_i hf
      obtain ⟨M14, e14, hf⟩ := bd_i hf
      refine A_iast C (pc := 14) (iC1 hq0) c14 dX0_chainCover_14 ?_
      refine A_nmM e14 ?_
      refine A_aload_n C (pc := 15) 0 rfl dX0_chainCover_15 ?_
      refine A_g0_1 C (pc := 16) hq0 kf_X0_15 dX0_chainCover_16 ?_
      refine A_iload_n C (pc := 19) 2 rfl dX0_chainCover_19 ?_
      refine A_iconst C (pc := 20) ic_m1 dX0_chainCover_20 ?_
      obtain ⟨c21, hf⟩ := chk_i hf
      obtain ⟨M21, e21, hf⟩ := bd_i hf
      refine A_iast C (pc := 21) (iC2 hq0) c21 dX0_chainCover_21 ?_
      refine A_nmM e21 ?_
      refine A_iinc C (pc := 22) (k0 := 2) [(0, .ref (B + q0)), (1, .ref (B + q1)), (2, .int (x2 + 1))] rfl ic_1 (by decide) [1, 2, 0] rfl dX0_chainCover_22 ?_
      refine A_goto C (pc := 25) 2 (by decide) dX0_chainCover_25 ?_
      exact hk2 _ _ hf
set_option maxRecDepth 100000 in
theorem m_X0_chainCover (l : Launch) (B : Nat) (D : va_G) (Y : Nat → ClassId) (o : Ou) {M : Mem} {q0 : Nat} {q1 : Nat} {r : Int32 × Mem} (hq0 : kd q0 = 3) (hq1 : kd q1 = 2) (hf : f_X0_chainCover M q0 q1 = some r) : MW l yX0_chainCover cX0_chainCover 4 (some .int) rm_X0_chainCover B D Y o [.ref (B + q0), .ref (B + q1)] M r.2 (some (.int r.1)) := by
  refine ofAt (L0 := [(0, .ref (B + q0)), (1, .ref (B + q1))]) (by decide +kernel) (Nat.le_of_ble_eq_true rfl) rfl (fun p e s m args below meth c C hr hk => ?_)
  dsimp only [f_X0_chainCover] at hf
  refine A_iconst C (pc := 0) ic_0 dX0_chainCover_0 ?_
  refine A_istore_n C (pc := 1) [(0, .ref (B + q0)), (1, .ref (B + q1)), (2, .int 0)] rfl (by decide) [1, 2, 0] rfl dX0_chainCover_1 ?_
  exact w_X0_chainCover_L2 C hr hk hq0 hq1 FU _ _  hf
set_option maxRecDepth 100000 in
theorem m_X1_isAhead (l : Launch) (B : Nat) (D : va_G) (Y : Nat → ClassId) (o : Ou) {M0 : Mem} {x0 : Int32} {x1 : Int32} {r : Int32}  (hf : f_X1_isAhead x0 x1 = some r) : MW l yX1_isAhead cX1_isAhead 3 (some .boolean) rm_X1_isAhead B D Y o [.int x0, .int x1] M0 M0 (some (.int r)) := by
  refine ofAt (L0 := [(0, .int x0), (1, .int x1)]) (by decide +kernel) (Nat.le_of_ble_eq_true rfl) rfl (fun p e s m args below meth c C hr hk => ?_)
  dsimp only [f_X1_isAhead] at hf
  refine A_iload_n C (pc := 0) 0 rfl dX1_isAhead_0 ?_
  obtain ⟨z1, h1, hf⟩ := bd_i hf
  refine A_callS1 C (pc := 1) (A := [.int x0]) (rest := []) k_X1_9 ky_J6_bitCount_0f7a4 ks_J6_bitCount_0f7a4 (m_J6_bitCount_0f7a4 l B D Y o  h1) rfl rfl (Nat.le_of_ble_eq_true rfl) ⟨rfl, rfl, Nat.le_of_ble_eq_true rfl, Nat.le_of_ble_eq_true rfl⟩ ⟨Nat.zero_le _, Nat.zero_le _⟩ dX1_isAhead_1 ?_
  refine A_iload_n C (pc := 4) 1 rfl dX1_isAhead_4 ?_
  obtain ⟨z5, h5, hf⟩ := bd_i hf
  refine A_callS1 C (pc := 5) (A := [.int x1]) (rest := [.int z1]) k_X1_9 ky_J6_bitCount_0f7a4 ks_J6_bitCount_0f7a4 (m_J6_bitCount_0f7a4 l B D Y o  h5) rfl rfl (Nat.le_of_ble_eq_true rfl) ⟨rfl, rfl, Nat.le_of_ble_eq_true rfl, Nat.le_of_ble_eq_true rfl⟩ ⟨Nat.zero_le _, Nat.zero_le _⟩ dX1_isAhead_5 ?_
  refine A_isub C (pc := 8) dX1_isAhead_8 ?_
  obtain ⟨v9, e9, hf⟩ := bd_i hf
  refine A_nmI e9 ?_
  refine A_istore_n C (pc := 9) [(0, .int x0), (1, .int x1), (2, .int v9)] rfl (by decide) [1, 2, 0] rfl dX1_isAhead_9 ?_
  refine A_iload_n C (pc := 10) 2 rfl dX1_isAhead_10 ?_
  refine A_if_lt C (pc := 11) 23 (by decide) dX1_isAhead_11 hf (fun _ hf => ?_) (fun _ hf => ?_)
  · refine A_iconst C (pc := 23) ic_1 dX1_isAhead_23 ?_
    refine A_goto C (pc := 24) 28 (by decide) dX1_isAhead_24 ?_
    exact R_iP C (pc := 28) hr hk nz_1 dX1_isAhead_28 hf
  · refine A_iload_n C (pc := 14) 2 rfl dX1_isAhead_14 ?_
    refine A_if_ne C (pc := 15) 27 (by decide) dX1_isAhead_15 hf (fun _ hf => ?_) (fun _ hf => ?_)
    · refine A_iconst C (pc := 27) ic_0 dX1_isAhead_27 ?_
      exact R_iP C (pc := 28) hr hk nz_0 dX1_isAhead_28 hf
    · refine A_iload_n C (pc := 18) 0 rfl dX1_isAhead_18 ?_
      refine A_iload_n C (pc := 19) 1 rfl dX1_isAhead_19 ?_
      refine A_icmp_ge C (pc := 20) 27 (by decide) dX1_isAhead_20 hf (fun _ hf => ?_) (fun _ hf => ?_)
      · refine A_iconst C (pc := 27) ic_0 dX1_isAhead_27 ?_
        exact R_iP C (pc := 28) hr hk nz_0 dX1_isAhead_28 hf
      · refine A_iconst C (pc := 23) ic_1 dX1_isAhead_23 ?_
        refine A_goto C (pc := 24) 28 (by decide) dX1_isAhead_24 ?_
        exact R_iP C (pc := 28) hr hk nz_1 dX1_isAhead_28 hf
set_option maxRecDepth 100000 in
theorem w_X3_isClosedBelow_L2 {M : Mem} {q0 : Nat} {x1 : Int32} {r : Int32} (C : Cx p s m args c cX3_isClosedBelow 3 RX3 B D Y) (hr : meth.sig.returnType = (some .boolean)) (hk : meth.locks = false) (hq0 : kd q0 = 2) : ∀ (n : Nat) (x2 : Int32), f_X3_isClosedBelow_L2 M q0 x1 n x2 = some r → At p l e rm_X3_isClosedBelow s m args below meth c 3 0 0 (QQ below args s B D Y M o (some (.int r))) B D Y o 2 M [(0, .ref (B + q0)), (1, .int x1), (2, .int x2)] [] := by
  intro n
  induction n with
  | zero => intro x2 hf; exact nomatch (show (none : Option Int32) = some r from hf)
  | succ n hk2 =>
    intro x2 hf
    replace hf : g_X3_isClosedBelow_L2 M q0 x1 (f_X3_isClosedBelow_L2 M q0 x1 n) x2 = some r := hf
    dsimp only [g_X3_isClosedBelow_L2] at hf
    refine A_iload_n C (pc := 2) 2 rfl dX3_isClosedBelow_2 ?_
    refine A_aload_n C (pc := 3) 0 rfl dX3_isClosedBelow_3 ?_
    refine A_g3_0 C (pc := 4) hq0 kf_X3_22 dX3_isClosedBelow_4 ?_
    refine A_icmp_ge C (pc := 7) 39 (by decide) dX3_isClosedBelow_7 hf (fun _ hf => ?_) (fun _ hf => ?_)
    · refine A_iconst C (pc := 39) ic_1 dX3_isClosedBelow_39 ?_
      exact R_iP C (pc := 40) hr hk nz_1 dX3_isClosedBelow_40 hf
    · refine A_iload_n C (pc := 10) 1 rfl dX3_isClosedBelow_10 ?_
      refine A_iload_n C (pc := 11) 2 rfl dX3_isClosedBelow_11 ?_
      obtain ⟨z12, h12, hf⟩ := bd_i hf
      refine A_callS1 C (pc := 12) (A := [.int x1, .int x2]) (rest := []) k_X3_30 ky_X6_has ks_X6_has (m_X6_has l B D Y o  h12) rfl rfl (Nat.le_of_ble_eq_true rfl) ⟨rfl, rfl, Nat.le_of_ble_eq_true rfl, Nat.le_of_ble_eq_true rfl⟩ ⟨Nat.zero_le _, Nat.zero_le _⟩ dX3_isClosedBelow_12 ?_
      refine A_if_eq C (pc := 15) 33 (by decide) dX3_isClosedBelow_15 hf (fun _ hf => ?_) (fun _ hf => ?_)
      · refine A_iinc C (pc := 33) (k0 := 2) [(0, .ref (B + q0)), (1, .int x1), (2, .int (x2 + 1))] rfl ic_1 (by decide) [1, 2, 0] rfl dX3_isClosedBelow_33 ?_
        refine A_goto C (pc := 36) 2 (by decide) dX3_isClosedBelow_36 ?_
        exact hk2 _ hf
      · refine A_aload_n C (pc := 18) 0 rfl dX3_isClosedBelow_18 ?_
        refine A_g3_1 C (pc := 19) hq0 kf_X3_9 dX3_isClosedBelow_19 ?_
        refine A_iload_n C (pc := 22) 2 rfl dX3_isClosedBelow_22 ?_
        obtain ⟨c23, hf⟩ := chk_i hf
        refine A_iald C (pc := 23) (iO1 hq0) c23 dX3_isClosedBelow_23 ?_
        refine A_iload_n C (pc := 24) 1 rfl dX3_isClosedBelow_24 ?_
        obtain ⟨z25, h25, hf⟩ := bd_i hf
        refine A_callS1 C (pc := 25) (A := [.int (M (q0 + 1) x2.toNatClampNeg), .int x1]) (rest := []) k_X3_75 ky_X6_isWithin ks_X6_isWithin (m_X6_isWithin l B D Y o  h25) rfl rfl (Nat.le_of_ble_eq_true rfl) ⟨rfl, rfl, Nat.le_of_ble_eq_true rfl, Nat.le_of_ble_eq_true rfl⟩ ⟨Nat.zero_le _, Nat.zero_le _⟩ dX3_isClosedBelow_25 ?_
        refine A_if_ne C (pc := 28) 33 (by decide) dX3_isClosedBelow_28 hf (fun _ hf => ?_) (fun _ hf => ?_)
        · refine A_iinc C (pc := 33) (k0 := 2) [(0, .ref (B + q0)), (1, .int x1), (2, .int (x2 + 1))] rfl ic_1 (by decide) [1, 2, 0] rfl dX3_isClosedBelow_33 ?_
          refine A_goto C (pc := 36) 2 (by decide) dX3_isClosedBelow_36 ?_
          exact hk2 _ hf
        · refine A_iconst C (pc := 31) ic_0 dX3_isClosedBelow_31 ?_
          exact R_iP C (pc := 32) hr hk nz_0 dX3_isClosedBelow_32 hf
set_option maxRecDepth 100000 in
theorem m_X3_isClosedBelow (l : Launch) (B : Nat) (D : va_G) (Y : Nat → ClassId) (o : Ou) {M : Mem} {q0 : Nat} {x1 : Int32} {r : Int32} (hq0 : kd q0 = 2) (hf : f_X3_isClosedBelow M q0 x1 = some r) : MW l yX3_isClosedBelow cX3_isClosedBelow 3 (some .boolean) rm_X3_isClosedBelow B D Y o [.ref (B + q0), .int x1] M M (some (.int r)) := by
  refine ofAt (L0 := [(0, .ref (B + q0)), (1, .int x1)]) (by decide +kernel) (Nat.le_of_ble_eq_true rfl) rfl (fun p e s m args below meth c C hr hk => ?_)
  dsimp only [f_X3_isClosedBelow] at hf
  refine A_iconst C (pc := 0) ic_0 dX3_isClosedBelow_0 ?_
  refine A_istore_n C (pc := 1) [(0, .ref (B + q0)), (1, .int x1), (2, .int 0)] rfl (by decide) [1, 2, 0] rfl dX3_isClosedBelow_1 ?_
  exact w_X3_isClosedBelow_L2 C hr hk hq0 FU _  hf
set_option maxRecDepth 100000 in
theorem w_X1_count_L4 {M : Mem} {q0 : Nat} {r : Int32} (C : Cx p s m args c cX1_count 3 RX1 B D Y) (hr : meth.sig.returnType = (some .int)) (hk : meth.locks = false) (hq0 : kd q0 = 2) : ∀ (n : Nat) (x1 : Int32) (x2 : Int32), f_X1_count_L4 M q0 n (x1, x2) = some r → At p l e rm_X1_count s m args below meth c 3 0 0 (QQ below args s B D Y M o (some (.int r))) B D Y o 4 M [(0, .ref (B + q0)), (1, .int x1), (2, .int x2)] [] := by
  intro n
  induction n with
  | zero => intro x1 x2 hf; exact nomatch (show (none : Option Int32) = some r from hf)
  | succ n hk4 =>
    intro x1 x2 hf
    replace hf : g_X1_count_L4 M q0 (f_X1_count_L4 M q0 n) (x1, x2) = some r := hf
    dsimp only [g_X1_count_L4] at hf
    refine A_iload_n C (pc := 4) 2 rfl dX1_count_4 ?_
    refine A_aload_n C (pc := 5) 0 rfl dX1_count_5 ?_
    obtain ⟨z6, h6, hf⟩ := bd_i hf
    refine A_callV1 C (pc := 6) (A := []) (rest := [.int x2]) k_X1_15 ky_X3_setLimit kv_X3_setLimit (m_X3_setLimit l B D Y o hq0 h6) (kO hq0).1 (ent2 hq0) rfl rfl rfl (Nat.le_of_ble_eq_true rfl) ⟨rfl, rfl, Nat.le_of_ble_eq_true rfl, Nat.le_of_ble_eq_true rfl⟩ ⟨Nat.zero_le _, Nat.zero_le _⟩ dX1_count_6 ?_
    refine A_icmp_ge C (pc := 9) 29 (by decide) dX1_count_9 hf (fun _ hf => ?_) (fun _ hf => ?_)
    · refine A_iload_n C (pc := 29) 1 rfl dX1_count_29 ?_
      exact R_iP C (pc := 30) hr hk rfl dX1_count_30 hf
    · refine A_aload_n C (pc := 12) 0 rfl dX1_count_12 ?_
      refine A_iload_n C (pc := 13) 2 rfl dX1_count_13 ?_
      obtain ⟨z14, h14, hf⟩ := bd_i hf
      refine A_callV1 C (pc := 14) (A := [.int x2]) (rest := []) k_X1_21 ky_X3_isClosedBelow kv_X3_isClosedBelow (m_X3_isClosedBelow l B D Y o hq0 h14) (kO hq0).1 (ent2 hq0) rfl rfl rfl (Nat.le_of_ble_eq_true rfl) ⟨rfl, rfl, Nat.le_of_ble_eq_true rfl, Nat.le_of_ble_eq_true rfl⟩ ⟨Nat.zero_le _, Nat.zero_le _⟩ dX1_count_14 ?_
      refine A_if_eq C (pc := 17) 23 (by decide) dX1_count_17 hf (fun _ hf => ?_) (fun _ hf => ?_)
      · refine A_iinc C (pc := 23) (k0 := 2) [(0, .ref (B + q0)), (1, .int x1), (2, .int (x2 + 1))] rfl ic_1 (by decide) [1, 2, 0] rfl dX1_count_23 ?_
        refine A_goto C (pc := 26) 4 (by decide) dX1_count_26 ?_
        exact hk4 _ _ hf
      · refine A_iinc C (pc := 20) (k0 := 1) [(0, .ref (B + q0)), (1, .int (x1 + 1)), (2, .int x2)] rfl ic_1 (by decide) [1, 0, 2] rfl dX1_count_20 ?_
        refine A_iinc C (pc := 23) (k0 := 2) [(0, .ref (B + q0)), (1, .int (x1 + 1)), (2, .int (x2 + 1))] rfl ic_1 (by decide) [1, 2, 0] rfl dX1_count_23 ?_
        refine A_goto C (pc := 26) 4 (by decide) dX1_count_26 ?_
        exact hk4 _ _ hf
set_option maxRecDepth 100000 in
theorem m_X1_count (l : Launch) (B : Nat) (D : va_G) (Y : Nat → ClassId) (o : Ou) {M : Mem} {q0 : Nat} {r : Int32} (hq0 : kd q0 = 2) (hf : f_X1_count M q0 = some r) : MW l yX1_count cX1_count 3 (some .int) rm_X1_count B D Y o [.ref (B + q0)] M M (some (.int r)) := by
  refine ofAt (L0 := [(0, .ref (B + q0))]) (by decide +kernel) (Nat.le_of_ble_eq_true rfl) rfl (fun p e s m args below meth c C hr hk => ?_)
  dsimp only [f_X1_count] at hf
  refine A_iconst C (pc := 0) ic_0 dX1_count_0 ?_
  refine A_istore_n C (pc := 1) [(0, .ref (B + q0)), (1, .int 0)] rfl (by decide) [1, 0] rfl dX1_count_1 ?_
  refine A_iconst C (pc := 2) ic_0 dX1_count_2 ?_
  refine A_istore_n C (pc := 3) [(0, .ref (B + q0)), (1, .int 0), (2, .int 0)] rfl (by decide) [1, 2, 0] rfl dX1_count_3 ?_
  exact w_X1_count_L4 C hr hk hq0 FU _ _  hf
set_option maxRecDepth 100000 in
theorem w_X1_countOfSize_L4 {M : Mem} {q0 : Nat} {x1 : Int32} {r : Int32} (C : Cx p s m args c cX1_countOfSize 4 RX1 B D Y) (hr : meth.sig.returnType = (some .int)) (hk : meth.locks = false) (hq0 : kd q0 = 2) : ∀ (n : Nat) (x2 : Int32) (x3 : Int32), f_X1_countOfSize_L4 M q0 x1 n (x2, x3) = some r → At p l e rm_X1_countOfSize s m args below meth c 4 0 0 (QQ below args s B D Y M o (some (.int r))) B D Y o 4 M [(0, .ref (B + q0)), (1, .int x1), (2, .int x2), (3, .int x3)] [] := by
  intro n
  induction n with
  | zero => intro x2 x3 hf; exact nomatch (show (none : Option Int32) = some r from hf)
  | succ n hk4 =>
    intro x2 x3 hf
    replace hf : g_X1_countOfSize_L4 M q0 x1 (f_X1_countOfSize_L4 M q0 x1 n) (x2, x3) = some r := hf
    dsimp only [g_X1_countOfSize_L4] at hf
    refine A_iload_n C (pc := 4) 3 rfl dX1_countOfSize_4 ?_
    refine A_aload_n C (pc := 5) 0 rfl dX1_countOfSize_5 ?_
    obtain ⟨z6, h6, hf⟩ := bd_i hf
    refine A_callV1 C (pc := 6) (A := []) (rest := [.int x3]) k_X1_15 ky_X3_setLimit kv_X3_setLimit (m_X3_setLimit l B D Y o hq0 h6) (kO hq0).1 (ent2 hq0) rfl rfl rfl (Nat.le_of_ble_eq_true rfl) ⟨rfl, rfl, Nat.le_of_ble_eq_true rfl, Nat.le_of_ble_eq_true rfl⟩ ⟨Nat.zero_le _, Nat.zero_le _⟩ dX1_countOfSize_6 ?_
    refine A_icmp_ge C (pc := 9) 37 (by decide) dX1_countOfSize_9 hf (fun _ hf => ?_) (fun _ hf => ?_)
    · refine A_iload_n C (pc := 37) 2 rfl dX1_countOfSize_37 ?_
      exact R_iP C (pc := 38) hr hk rfl dX1_countOfSize_38 hf
    · refine A_iload_n C (pc := 12) 3 rfl dX1_countOfSize_12 ?_
      obtain ⟨z13, h13, hf⟩ := bd_i hf
      refine A_callS1 C (pc := 13) (A := [.int x3]) (rest := []) k_X1_9 ky_J6_bitCount_0f7a4 ks_J6_bitCount_0f7a4 (m_J6_bitCount_0f7a4 l B D Y o  h13) rfl rfl (Nat.le_of_ble_eq_true rfl) ⟨rfl, rfl, Nat.le_of_ble_eq_true rfl, Nat.le_of_ble_eq_true rfl⟩ ⟨Nat.zero_le _, Nat.zero_le _⟩ dX1_countOfSize_13 ?_
      refine A_iload_n C (pc := 16) 1 rfl dX1_countOfSize_16 ?_
      refine A_icmp_ne C (pc := 17) 31 (by decide) dX1_countOfSize_17 hf (fun _ hf => ?_) (fun _ hf => ?_)
      · refine A_iinc C (pc := 31) (k0 := 3) [(0, .ref (B + q0)), (1, .int x1), (2, .int x2), (3, .int (x3 + 1))] rfl ic_1 (by decide) [1, 2, 3, 0] rfl dX1_countOfSize_31 ?_
        refine A_goto C (pc := 34) 4 (by decide) dX1_countOfSize_34 ?_
        exact hk4 _ _ hf
      · refine A_aload_n C (pc := 20) 0 rfl dX1_countOfSize_20 ?_
        refine A_iload_n C (pc := 21) 3 rfl dX1_countOfSize_21 ?_
        obtain ⟨z22, h22, hf⟩ := bd_i hf
        refine A_callV1 C (pc := 22) (A := [.int x3]) (rest := []) k_X1_21 ky_X3_isClosedBelow kv_X3_isClosedBelow (m_X3_isClosedBelow l B D Y o hq0 h22) (kO hq0).1 (ent2 hq0) rfl rfl rfl (Nat.le_of_ble_eq_true rfl) ⟨rfl, rfl, Nat.le_of_ble_eq_true rfl, Nat.le_of_ble_eq_true rfl⟩ ⟨Nat.zero_le _, Nat.zero_le _⟩ dX1_countOfSize_22 ?_
        refine A_if_eq C (pc := 25) 31 (by decide) dX1_countOfSize_25 hf (fun _ hf => ?_) (fun _ hf => ?_)
        · refine A_iinc C (pc := 31) (k0 := 3) [(0, .ref (B + q0)), (1, .int x1), (2, .int x2), (3, .int (x3 + 1))] rfl ic_1 (by decide) [1, 2, 3, 0] rfl dX1_countOfSize_31 ?_
          refine A_goto C (pc := 34) 4 (by decide) dX1_countOfSize_34 ?_
          exact hk4 _ _ hf
        · refine A_iinc C (pc := 28) (k0 := 2) [(0, .ref (B + q0)), (1, .int x1), (2, .int (x2 + 1)), (3, .int x3)] rfl ic_1 (by decide) [1, 2, 0, 3] rfl dX1_countOfSize_28 ?_
          refine A_iinc C (pc := 31) (k0 := 3) [(0, .ref (B + q0)), (1, .int x1), (2, .int (x2 + 1)), (3, .int (x3 + 1))] rfl ic_1 (by decide) [1, 2, 3, 0] rfl dX1_countOfSize_31 ?_
          refine A_goto C (pc := 34) 4 (by decide) dX1_countOfSize_34 ?_
          exact hk4 _ _ hf
set_option maxRecDepth 100000 in
theorem m_X1_countOfSize (l : Launch) (B : Nat) (D : va_G) (Y : Nat → ClassId) (o : Ou) {M : Mem} {q0 : Nat} {x1 : Int32} {r : Int32} (hq0 : kd q0 = 2) (hf : f_X1_countOfSize M q0 x1 = some r) : MW l yX1_countOfSize cX1_countOfSize 4 (some .int) rm_X1_countOfSize B D Y o [.ref (B + q0), .int x1] M M (some (.int r)) := by
  refine ofAt (L0 := [(0, .ref (B + q0)), (1, .int x1)]) (by decide +kernel) (Nat.le_of_ble_eq_true rfl) rfl (fun p e s m args below meth c C hr hk => ?_)
  dsimp only [f_X1_countOfSize] at hf
  refine A_iconst C (pc := 0) ic_0 dX1_countOfSize_0 ?_
  refine A_istore_n C (pc := 1) [(0, .ref (B + q0)), (1, .int x1), (2, .int 0)] rfl (by decide) [1, 2, 0] rfl dX1_countOfSize_1 ?_
  refine A_iconst C (pc := 2) ic_0 dX1_countOfSize_2 ?_
  refine A_istore_n C (pc := 3) [(0, .ref (B + q0)), (1, .int x1), (2, .int 0), (3, .int 0)] rfl (by decide) [1, 2, 3, 0] rfl dX1_countOfSize_3 ?_
  exact w_X1_countOfSize_L4 C hr hk hq0 FU _ _  hf
set_option maxRecDepth 100000 in
theorem w_X1_countAhead_L4 {M : Mem} {q0 : Nat} {x1 : Int32} {r : Int32} (C : Cx p s m args c cX1_countAhead 4 RX1 B D Y) (hr : meth.sig.returnType = (some .int)) (hk : meth.locks = false) (hq0 : kd q0 = 2) : ∀ (n : Nat) (x2 : Int32) (x3 : Int32), f_X1_countAhead_L4 M q0 x1 n (x2, x3) = some r → At p l e rm_X1_countAhead s m args below meth c 4 0 0 (QQ below args s B D Y M o (some (.int r))) B D Y o 4 M [(0, .ref (B + q0)), (1, .int x1), (2, .int x2), (3, .int x3)] [] := by
  intro n
  induction n with
  | zero => intro x2 x3 hf; exact nomatch (show (none : Option Int32) = some r from hf)
  | succ n hk4 =>
    intro x2 x3 hf
    replace hf : g_X1_countAhead_L4 M q0 x1 (f_X1_countAhead_L4 M q0 x1 n) (x2, x3) = some r := hf
    dsimp only [g_X1_countAhead_L4] at hf
    refine A_iload_n C (pc := 4) 3 rfl dX1_countAhead_4 ?_
    refine A_aload_n C (pc := 5) 0 rfl dX1_countAhead_5 ?_
    obtain ⟨z6, h6, hf⟩ := bd_i hf
    refine A_callV1 C (pc := 6) (A := []) (rest := [.int x3]) k_X1_15 ky_X3_setLimit kv_X3_setLimit (m_X3_setLimit l B D Y o hq0 h6) (kO hq0).1 (ent2 hq0) rfl rfl rfl (Nat.le_of_ble_eq_true rfl) ⟨rfl, rfl, Nat.le_of_ble_eq_true rfl, Nat.le_of_ble_eq_true rfl⟩ ⟨Nat.zero_le _, Nat.zero_le _⟩ dX1_countAhead_6 ?_
    refine A_icmp_ge C (pc := 9) 37 (by decide) dX1_countAhead_9 hf (fun _ hf => ?_) (fun _ hf => ?_)
    · refine A_iload_n C (pc := 37) 2 rfl dX1_countAhead_37 ?_
      exact R_iP C (pc := 38) hr hk rfl dX1_countAhead_38 hf
    · refine A_iload_n C (pc := 12) 3 rfl dX1_countAhead_12 ?_
      refine A_iload_n C (pc := 13) 1 rfl dX1_countAhead_13 ?_
      obtain ⟨z14, h14, hf⟩ := bd_i hf
      refine A_callS1 C (pc := 14) (A := [.int x3, .int x1]) (rest := []) k_X1_25 ky_X1_isAhead ks_X1_isAhead (m_X1_isAhead l B D Y o  h14) rfl rfl (Nat.le_of_ble_eq_true rfl) ⟨rfl, rfl, Nat.le_of_ble_eq_true rfl, Nat.le_of_ble_eq_true rfl⟩ ⟨Nat.zero_le _, Nat.zero_le _⟩ dX1_countAhead_14 ?_
      refine A_if_eq C (pc := 17) 31 (by decide) dX1_countAhead_17 hf (fun _ hf => ?_) (fun _ hf => ?_)
      · refine A_iinc C (pc := 31) (k0 := 3) [(0, .ref (B + q0)), (1, .int x1), (2, .int x2), (3, .int (x3 + 1))] rfl ic_1 (by decide) [1, 2, 3, 0] rfl dX1_countAhead_31 ?_
        refine A_goto C (pc := 34) 4 (by decide) dX1_countAhead_34 ?_
        exact hk4 _ _ hf
      · refine A_aload_n C (pc := 20) 0 rfl dX1_countAhead_20 ?_
        refine A_iload_n C (pc := 21) 3 rfl dX1_countAhead_21 ?_
        obtain ⟨z22, h22, hf⟩ := bd_i hf
        refine A_callV1 C (pc := 22) (A := [.int x3]) (rest := []) k_X1_21 ky_X3_isClosedBelow kv_X3_isClosedBelow (m_X3_isClosedBelow l B D Y o hq0 h22) (kO hq0).1 (ent2 hq0) rfl rfl rfl (Nat.le_of_ble_eq_true rfl) ⟨rfl, rfl, Nat.le_of_ble_eq_true rfl, Nat.le_of_ble_eq_true rfl⟩ ⟨Nat.zero_le _, Nat.zero_le _⟩ dX1_countAhead_22 ?_
        refine A_if_eq C (pc := 25) 31 (by decide) dX1_countAhead_25 hf (fun _ hf => ?_) (fun _ hf => ?_)
        · refine A_iinc C (pc := 31) (k0 := 3) [(0, .ref (B + q0)), (1, .int x1), (2, .int x2), (3, .int (x3 + 1))] rfl ic_1 (by decide) [1, 2, 3, 0] rfl dX1_countAhead_31 ?_
          refine A_goto C (pc := 34) 4 (by decide) dX1_countAhead_34 ?_
          exact hk4 _ _ hf
        · refine A_iinc C (pc := 28) (k0 := 2) [(0, .ref (B + q0)), (1, .int x1), (2, .int (x2 + 1)), (3, .int x3)] rfl ic_1 (by decide) [1, 2, 0, 3] rfl dX1_countAhead_28 ?_
          refine A_iinc C (pc := 31) (k0 := 3) [(0, .ref (B + q0)), (1, .int x1), (2, .int (x2 + 1)), (3, .int (x3 + 1))] rfl ic_1 (by decide) [1, 2, 3, 0] rfl dX1_countAhead_31 ?_
          refine A_goto C (pc := 34) 4 (by decide) dX1_countAhead_34 ?_
          exact hk4 _ _ hf
set_option maxRecDepth 100000 in
theorem m_X1_countAhead (l : Launch) (B : Nat) (D : va_G) (Y : Nat → ClassId) (o : Ou) {M : Mem} {q0 : Nat} {x1 : Int32} {r : Int32} (hq0 : kd q0 = 2) (hf : f_X1_countAhead M q0 x1 = some r) : MW l yX1_countAhead cX1_countAhead 4 (some .int) rm_X1_countAhead B D Y o [.ref (B + q0), .int x1] M M (some (.int r)) := by
  refine ofAt (L0 := [(0, .ref (B + q0)), (1, .int x1)]) (by decide +kernel) (Nat.le_of_ble_eq_true rfl) rfl (fun p e s m args below meth c C hr hk => ?_)
  dsimp only [f_X1_countAhead] at hf
  refine A_iconst C (pc := 0) ic_0 dX1_countAhead_0 ?_
  refine A_istore_n C (pc := 1) [(0, .ref (B + q0)), (1, .int x1), (2, .int 0)] rfl (by decide) [1, 2, 0] rfl dX1_countAhead_1 ?_
  refine A_iconst C (pc := 2) ic_0 dX1_countAhead_2 ?_
  refine A_istore_n C (pc := 3) [(0, .ref (B + q0)), (1, .int x1), (2, .int 0), (3, .int 0)] rfl (by decide) [1, 2, 3, 0] rfl dX1_countAhead_3 ?_
  exact w_X1_countAhead_L4 C hr hk hq0 FU _ _  hf
set_option maxRecDepth 100000 in
theorem w_X1_countShared_L4 {M : Mem} {q0 : Nat} {q1 : Nat} {r : Int32} (C : Cx p s m args c cX1_countShared 4 RX1 B D Y) (hr : meth.sig.returnType = (some .int)) (hk : meth.locks = false) (hq0 : kd q0 = 2) (hq1 : kd q1 = 2) : ∀ (n : Nat) (x2 : Int32) (x3 : Int32), f_X1_countShared_L4 M q0 q1 n (x2, x3) = some r → At p l e rm_X1_countShared s m args below meth c 4 0 0 (QQ below args s B D Y M o (some (.int r))) B D Y o 4 M [(0, .ref (B + q0)), (1, .ref (B + q1)), (2, .int x2), (3, .int x3)] [] := by
  intro n
  induction n with
  | zero => intro x2 x3 hf; exact nomatch (show (none : Option Int32) = some r from hf)
  | succ n hk4 =>
    intro x2 x3 hf
    replace hf : g_X1_countShared_L4 M q0 q1 (f_X1_countShared_L4 M q0 q1 n) (x2, x3) = some r := hf
    dsimp only [g_X1_countShared_L4] at hf
    refine A_iload_n C (pc := 4) 3 rfl dX1_countShared_4 ?_
    refine A_aload_n C (pc := 5) 0 rfl dX1_countShared_5 ?_
    obtain ⟨z6, h6, hf⟩ := bd_i hf
    refine A_callV1 C (pc := 6) (A := []) (rest := [.int x3]) k_X1_15 ky_X3_setLimit kv_X3_setLimit (m_X3_setLimit l B D Y o hq0 h6) (kO hq0).1 (ent2 hq0) rfl rfl rfl (Nat.le_of_ble_eq_true rfl) ⟨rfl, rfl, Nat.le_of_ble_eq_true rfl, Nat.le_of_ble_eq_true rfl⟩ ⟨Nat.zero_le _, Nat.zero_le _⟩ dX1_countShared_6 ?_
    refine A_icmp_ge C (pc := 9) 37 (by decide) dX1_countShared_9 hf (fun _ hf => ?_) (fun _ hf => ?_)
    · refine A_iload_n C (pc := 37) 2 rfl dX1_countShared_37 ?_
      exact R_iP C (pc := 38) hr hk rfl dX1_countShared_38 hf
    · refine A_aload_n C (pc := 12) 0 rfl dX1_countShared_12 ?_
      refine A_iload_n C (pc := 13) 3 rfl dX1_countShared_13 ?_
      obtain ⟨z14, h14, hf⟩ := bd_i hf
      refine A_callV1 C (pc := 14) (A := [.int x3]) (rest := []) k_X1_21 ky_X3_isClosedBelow kv_X3_isClosedBelow (m_X3_isClosedBelow l B D Y o hq0 h14) (kO hq0).1 (ent2 hq0) rfl rfl rfl (Nat.le_of_ble_eq_true rfl) ⟨rfl, rfl, Nat.le_of_ble_eq_true rfl, Nat.le_of_ble_eq_true rfl⟩ ⟨Nat.zero_le _, Nat.zero_le _⟩ dX1_countShared_14 ?_
      refine A_if_eq C (pc := 17) 31 (by decide) dX1_countShared_17 hf (fun _ hf => ?_) (fun _ hf => ?_)
      · refine A_iinc C (pc := 31) (k0 := 3) [(0, .ref (B + q0)), (1, .ref (B + q1)), (2, .int x2), (3, .int (x3 + 1))] rfl ic_1 (by decide) [1, 2, 3, 0] rfl dX1_countShared_31 ?_
        refine A_goto C (pc := 34) 4 (by decide) dX1_countShared_34 ?_
        exact hk4 _ _ hf
      · refine A_aload_n C (pc := 20) 1 rfl dX1_countShared_20 ?_
        refine A_iload_n C (pc := 21) 3 rfl dX1_countShared_21 ?_
        obtain ⟨z22, h22, hf⟩ := bd_i hf
        refine A_callV1 C (pc := 22) (A := [.int x3]) (rest := []) k_X1_21 ky_X3_isClosedBelow kv_X3_isClosedBelow (m_X3_isClosedBelow l B D Y o hq1 h22) (kO hq1).1 (ent2 hq1) rfl rfl rfl (Nat.le_of_ble_eq_true rfl) ⟨rfl, rfl, Nat.le_of_ble_eq_true rfl, Nat.le_of_ble_eq_true rfl⟩ ⟨Nat.zero_le _, Nat.zero_le _⟩ dX1_countShared_22 ?_
        refine A_if_eq C (pc := 25) 31 (by decide) dX1_countShared_25 hf (fun _ hf => ?_) (fun _ hf => ?_)
        · refine A_iinc C (pc := 31) (k0 := 3) [(0, .ref (B + q0)), (1, .ref (B + q1)), (2, .int x2), (3, .int (x3 + 1))] rfl ic_1 (by decide) [1, 2, 3, 0] rfl dX1_countShared_31 ?_
          refine A_goto C (pc := 34) 4 (by decide) dX1_countShared_34 ?_
          exact hk4 _ _ hf
        · refine A_iinc C (pc := 28) (k0 := 2) [(0, .ref (B + q0)), (1, .ref (B + q1)), (2, .int (x2 + 1)), (3, .int x3)] rfl ic_1 (by decide) [1, 2, 0, 3] rfl dX1_countShared_28 ?_
          refine A_iinc C (pc := 31) (k0 := 3) [(0, .ref (B + q0)), (1, .ref (B + q1)), (2, .int (x2 + 1)), (3, .int (x3 + 1))] rfl ic_1 (by decide) [1, 2, 3, 0] rfl dX1_countShared_31 ?_
          refine A_goto C (pc := 34) 4 (by decide) dX1_countShared_34 ?_
          exact hk4 _ _ hf
set_option maxRecDepth 100000 in
theorem m_X1_countShared (l : Launch) (B : Nat) (D : va_G) (Y : Nat → ClassId) (o : Ou) {M : Mem} {q0 : Nat} {q1 : Nat} {r : Int32} (hq0 : kd q0 = 2) (hq1 : kd q1 = 2) (hf : f_X1_countShared M q0 q1 = some r) : MW l yX1_countShared cX1_countShared 4 (some .int) rm_X1_countShared B D Y o [.ref (B + q0), .ref (B + q1)] M M (some (.int r)) := by
  refine ofAt (L0 := [(0, .ref (B + q0)), (1, .ref (B + q1))]) (by decide +kernel) (Nat.le_of_ble_eq_true rfl) rfl (fun p e s m args below meth c C hr hk => ?_)
  dsimp only [f_X1_countShared] at hf
  refine A_iconst C (pc := 0) ic_0 dX1_countShared_0 ?_
  refine A_istore_n C (pc := 1) [(0, .ref (B + q0)), (1, .ref (B + q1)), (2, .int 0)] rfl (by decide) [1, 2, 0] rfl dX1_countShared_1 ?_
  refine A_iconst C (pc := 2) ic_0 dX1_countShared_2 ?_
  refine A_istore_n C (pc := 3) [(0, .ref (B + q0)), (1, .ref (B + q1)), (2, .int 0), (3, .int 0)] rfl (by decide) [1, 2, 3, 0] rfl dX1_countShared_3 ?_
  exact w_X1_countShared_L4 C hr hk hq0 hq1 FU _ _  hf
set_option maxRecDepth 100000 in
theorem w_X1_findAt_L15 {M : Mem} {q0 : Nat} {x1 : Int32} {x3 : Int32} {r : Int32} (C : Cx p s m args c cX1_findAt 5 RX1 B D Y) (hr : meth.sig.returnType = (some .int)) (hk : meth.locks = false) (hq0 : kd q0 = 2) {k4 : (Int32 × Int32) → Option Int32} (hk4 : ∀ (x2 : Int32) (x3 : Int32), k4 (x2, x3) = some r → At p l e rm_X1_findAt s m args below meth c 5 0 0 (QQ below args s B D Y M o (some (.int r))) B D Y o 4 M [(0, .ref (B + q0)), (1, .int x1), (2, .int x2), (3, .int x3)] []) : ∀ (n : Nat) (x2 : Int32) (x4 : Int32), f_X1_findAt_L15 M q0 x1 x3 k4 n (x2, x4) = some r → At p l e rm_X1_findAt s m args below meth c 5 0 0 (QQ below args s B D Y M o (some (.int r))) B D Y o 15 M [(0, .ref (B + q0)), (1, .int x1), (2, .int x2), (3, .int x3), (4, .int x4)] [] := by
  intro n
  induction n with
  | zero => intro x2 x4 hf; exact nomatch (show (none : Option Int32) = some r from hf)
  | succ n hk15 =>
    intro x2 x4 hf
    replace hf : g_X1_findAt_L15 M q0 x1 x3 k4 (f_X1_findAt_L15 M q0 x1 x3 k4 n) (x2, x4) = some r := hf
    dsimp only [g_X1_findAt_L15] at hf
    refine A_iload C (pc := 15) 4 rfl dX1_findAt_15 ?_
    refine A_aload_n C (pc := 17) 0 rfl dX1_findAt_17 ?_
    obtain ⟨z18, h18, hf⟩ := bd_i hf
    refine A_callV1 C (pc := 18) (A := []) (rest := [.int x4]) k_X1_15 ky_X3_setLimit kv_X3_setLimit (m_X3_setLimit l B D Y o hq0 h18) (kO hq0).1 (ent2 hq0) rfl rfl rfl (Nat.le_of_ble_eq_true rfl) ⟨rfl, rfl, Nat.le_of_ble_eq_true rfl, Nat.le_of_ble_eq_true rfl⟩ ⟨Nat.zero_le _, Nat.zero_le _⟩ dX1_findAt_18 ?_
    refine A_icmp_ge C (pc := 21) 59 (by decide) dX1_findAt_21 hf (fun _ hf => ?_) (fun _ hf => ?_)
    · refine A_iinc C (pc := 59) (k0 := 3) [(0, .ref (B + q0)), (1, .int x1), (2, .int x2), (3, .int (x3 + 1))] rfl ic_1 (by decide) [1, 2, 3, 0] rfl dX1_findAt_59 ?_
      refine A_goto C (pc := 62) 4 (by decide) dX1_findAt_62 ?_
      exact hk4 _ _ hf
    · refine A_iload C (pc := 24) 4 rfl dX1_findAt_24 ?_
      obtain ⟨z26, h26, hf⟩ := bd_i hf
      refine A_callS1 C (pc := 26) (A := [.int x4]) (rest := []) k_X1_9 ky_J6_bitCount_0f7a4 ks_J6_bitCount_0f7a4 (m_J6_bitCount_0f7a4 l B D Y o  h26) rfl rfl (Nat.le_of_ble_eq_true rfl) ⟨rfl, rfl, Nat.le_of_ble_eq_true rfl, Nat.le_of_ble_eq_true rfl⟩ ⟨Nat.zero_le _, Nat.zero_le _⟩ dX1_findAt_26 ?_
      refine A_iload_n C (pc := 29) 3 rfl dX1_findAt_29 ?_
      refine A_icmp_ne C (pc := 30) 53 (by decide) dX1_findAt_30 hf (fun _ hf => ?_) (fun _ hf => ?_)
      · refine A_iinc C (pc := 53) (k0 := 4) [(0, .ref (B + q0)), (1, .int x1), (2, .int x2), (3, .int x3), (4, .int (x4 + 1))] rfl ic_1 (by decide) [1, 2, 3, 4, 0] rfl dX1_findAt_53 ?_
        refine A_goto C (pc := 56) 15 (by decide) dX1_findAt_56 ?_
        exact hk15 _ _ hf
      · refine A_aload_n C (pc := 33) 0 rfl dX1_findAt_33 ?_
        refine A_iload C (pc := 34) 4 rfl dX1_findAt_34 ?_
        obtain ⟨z36, h36, hf⟩ := bd_i hf
        refine A_callV1 C (pc := 36) (A := [.int x4]) (rest := []) k_X1_21 ky_X3_isClosedBelow kv_X3_isClosedBelow (m_X3_isClosedBelow l B D Y o hq0 h36) (kO hq0).1 (ent2 hq0) rfl rfl rfl (Nat.le_of_ble_eq_true rfl) ⟨rfl, rfl, Nat.le_of_ble_eq_true rfl, Nat.le_of_ble_eq_true rfl⟩ ⟨Nat.zero_le _, Nat.zero_le _⟩ dX1_findAt_36 ?_
        refine A_if_eq C (pc := 39) 53 (by decide) dX1_findAt_39 hf (fun _ hf => ?_) (fun _ hf => ?_)
        · refine A_iinc C (pc := 53) (k0 := 4) [(0, .ref (B + q0)), (1, .int x1), (2, .int x2), (3, .int x3), (4, .int (x4 + 1))] rfl ic_1 (by decide) [1, 2, 3, 4, 0] rfl dX1_findAt_53 ?_
          refine A_goto C (pc := 56) 15 (by decide) dX1_findAt_56 ?_
          exact hk15 _ _ hf
        · refine A_iload_n C (pc := 42) 2 rfl dX1_findAt_42 ?_
          refine A_iload_n C (pc := 43) 1 rfl dX1_findAt_43 ?_
          refine A_icmp_ne C (pc := 44) 50 (by decide) dX1_findAt_44 hf (fun _ hf => ?_) (fun _ hf => ?_)
          · refine A_iinc C (pc := 50) (k0 := 2) [(0, .ref (B + q0)), (1, .int x1), (2, .int (x2 + 1)), (3, .int x3), (4, .int x4)] rfl ic_1 (by decide) [1, 2, 0, 3, 4] rfl dX1_findAt_50 ?_
            refine A_iinc C (pc := 53) (k0 := 4) [(0, .ref (B + q0)), (1, .int x1), (2, .int (x2 + 1)), (3, .int x3), (4, .int (x4 + 1))] rfl ic_1 (by decide) [1, 2, 3, 4, 0] rfl dX1_findAt_53 ?_
            refine A_goto C (pc := 56) 15 (by decide) dX1_findAt_56 ?_
            exact hk15 _ _ hf
          · refine A_iload C (pc := 47) 4 rfl dX1_findAt_47 ?_
            exact R_iP C (pc := 49) hr hk rfl dX1_findAt_49 hf
set_option maxRecDepth 100000 in
theorem w_X1_findAt_L4 {M : Mem} {q0 : Nat} {x1 : Int32} {r : Int32} (C : Cx p s m args c cX1_findAt 5 RX1 B D Y) (hr : meth.sig.returnType = (some .int)) (hk : meth.locks = false) (hq0 : kd q0 = 2) : ∀ (n : Nat) (x2 : Int32) (x3 : Int32), f_X1_findAt_L4 M q0 x1 n (x2, x3) = some r → At p l e rm_X1_findAt s m args below meth c 5 0 0 (QQ below args s B D Y M o (some (.int r))) B D Y o 4 M [(0, .ref (B + q0)), (1, .int x1), (2, .int x2), (3, .int x3)] [] := by
  intro n
  induction n with
  | zero => intro x2 x3 hf; exact nomatch (show (none : Option Int32) = some r from hf)
  | succ n hk4 =>
    intro x2 x3 hf
    replace hf : g_X1_findAt_L4 M q0 x1 (f_X1_findAt_L4 M q0 x1 n) (x2, x3) = some r := hf
    dsimp only [g_X1_findAt_L4] at hf
    refine A_iload_n C (pc := 4) 3 rfl dX1_findAt_4 ?_
    refine A_aload_n C (pc := 5) 0 rfl dX1_findAt_5 ?_
    refine A_g3_0 C (pc := 6) hq0 kf_X1_31 dX1_findAt_6 ?_
    refine A_icmp_gt C (pc := 9) 65 (by decide) dX1_findAt_9 hf (fun _ hf => ?_) (fun _ hf => ?_)
    · refine A_iconst C (pc := 65) ic_m1 dX1_findAt_65 ?_
      exact R_iP C (pc := 66) hr hk rfl dX1_findAt_66 hf
    · refine A_iconst C (pc := 12) ic_0 dX1_findAt_12 ?_
      refine A_istore C (pc := 13) [(0, .ref (B + q0)), (1, .int x1), (2, .int x2), (3, .int x3), (4, .int 0)] (by decide) [1, 2, 3, 4, 0] rfl dX1_findAt_13 ?_
      exact w_X1_findAt_L15 C hr hk hq0 hk4 FU _ _  hf
set_option maxRecDepth 100000 in
theorem m_X1_findAt (l : Launch) (B : Nat) (D : va_G) (Y : Nat → ClassId) (o : Ou) {M : Mem} {q0 : Nat} {x1 : Int32} {r : Int32} (hq0 : kd q0 = 2) (hf : f_X1_findAt M q0 x1 = some r) : MW l yX1_findAt cX1_findAt 5 (some .int) rm_X1_findAt B D Y o [.ref (B + q0), .int x1] M M (some (.int r)) := by
  refine ofAt (L0 := [(0, .ref (B + q0)), (1, .int x1)]) (by decide +kernel) (Nat.le_of_ble_eq_true rfl) rfl (fun p e s m args below meth c C hr hk => ?_)
  dsimp only [f_X1_findAt] at hf
  refine A_iconst C (pc := 0) ic_0 dX1_findAt_0 ?_
  refine A_istore_n C (pc := 1) [(0, .ref (B + q0)), (1, .int x1), (2, .int 0)] rfl (by decide) [1, 2, 0] rfl dX1_findAt_1 ?_
  refine A_iconst C (pc := 2) ic_0 dX1_findAt_2 ?_
  refine A_istore_n C (pc := 3) [(0, .ref (B + q0)), (1, .int x1), (2, .int 0), (3, .int 0)] rfl (by decide) [1, 2, 3, 0] rfl dX1_findAt_3 ?_
  exact w_X1_findAt_L4 C hr hk hq0 FU _ _  hf
set_option maxRecDepth 100000 in
theorem w_X1_lastAhead_L4 {M : Mem} {q0 : Nat} {x1 : Int32} {r : Int32} (C : Cx p s m args c cX1_lastAhead 4 RX1 B D Y) (hr : meth.sig.returnType = (some .int)) (hk : meth.locks = false) (hq0 : kd q0 = 2) : ∀ (n : Nat) (x2 : Int32) (x3 : Int32), f_X1_lastAhead_L4 M q0 x1 n (x2, x3) = some r → At p l e rm_X1_lastAhead s m args below meth c 4 0 0 (QQ below args s B D Y M o (some (.int r))) B D Y o 4 M [(0, .ref (B + q0)), (1, .int x1), (2, .int x2), (3, .int x3)] [] := by
  intro n
  induction n with
  | zero => intro x2 x3 hf; exact nomatch (show (none : Option Int32) = some r from hf)
  | succ n hk4 =>
    intro x2 x3 hf
    replace hf : g_X1_lastAhead_L4 M q0 x1 (f_X1_lastAhead_L4 M q0 x1 n) (x2, x3) = some r := hf
    dsimp only [g_X1_lastAhead_L4] at hf
    refine A_iload_n C (pc := 4) 3 rfl dX1_lastAhead_4 ?_
    refine A_aload_n C (pc := 5) 0 rfl dX1_lastAhead_5 ?_
    obtain ⟨z6, h6, hf⟩ := bd_i hf
    refine A_callV1 C (pc := 6) (A := []) (rest := [.int x3]) k_X1_15 ky_X3_setLimit kv_X3_setLimit (m_X3_setLimit l B D Y o hq0 h6) (kO hq0).1 (ent2 hq0) rfl rfl rfl (Nat.le_of_ble_eq_true rfl) ⟨rfl, rfl, Nat.le_of_ble_eq_true rfl, Nat.le_of_ble_eq_true rfl⟩ ⟨Nat.zero_le _, Nat.zero_le _⟩ dX1_lastAhead_6 ?_
    refine A_icmp_ge C (pc := 9) 49 (by decide) dX1_lastAhead_9 hf (fun _ hf => ?_) (fun _ hf => ?_)
    · refine A_iload_n C (pc := 49) 2 rfl dX1_lastAhead_49 ?_
      exact R_iP C (pc := 50) hr hk rfl dX1_lastAhead_50 hf
    · refine A_iload_n C (pc := 12) 3 rfl dX1_lastAhead_12 ?_
      refine A_iload_n C (pc := 13) 1 rfl dX1_lastAhead_13 ?_
      obtain ⟨z14, h14, hf⟩ := bd_i hf
      refine A_callS1 C (pc := 14) (A := [.int x3, .int x1]) (rest := []) k_X1_25 ky_X1_isAhead ks_X1_isAhead (m_X1_isAhead l B D Y o  h14) rfl rfl (Nat.le_of_ble_eq_true rfl) ⟨rfl, rfl, Nat.le_of_ble_eq_true rfl, Nat.le_of_ble_eq_true rfl⟩ ⟨Nat.zero_le _, Nat.zero_le _⟩ dX1_lastAhead_14 ?_
      refine A_if_eq C (pc := 17) 43 (by decide) dX1_lastAhead_17 hf (fun _ hf => ?_) (fun _ hf => ?_)
      · refine A_iinc C (pc := 43) (k0 := 3) [(0, .ref (B + q0)), (1, .int x1), (2, .int x2), (3, .int (x3 + 1))] rfl ic_1 (by decide) [1, 2, 3, 0] rfl dX1_lastAhead_43 ?_
        refine A_goto C (pc := 46) 4 (by decide) dX1_lastAhead_46 ?_
        exact hk4 _ _ hf
      · refine A_iload_n C (pc := 20) 2 rfl dX1_lastAhead_20 ?_
        refine A_iconst C (pc := 21) ic_m1 dX1_lastAhead_21 ?_
        refine A_icmp_eq C (pc := 22) 33 (by decide) dX1_lastAhead_22 hf (fun _ hf => ?_) (fun _ hf => ?_)
        · refine A_aload_n C (pc := 33) 0 rfl dX1_lastAhead_33 ?_
          refine A_iload_n C (pc := 34) 3 rfl dX1_lastAhead_34 ?_
          obtain ⟨z35, h35, hf⟩ := bd_i hf
          refine A_callV1 C (pc := 35) (A := [.int x3]) (rest := []) k_X1_21 ky_X3_isClosedBelow kv_X3_isClosedBelow (m_X3_isClosedBelow l B D Y o hq0 h35) (kO hq0).1 (ent2 hq0) rfl rfl rfl (Nat.le_of_ble_eq_true rfl) ⟨rfl, rfl, Nat.le_of_ble_eq_true rfl, Nat.le_of_ble_eq_true rfl⟩ ⟨Nat.zero_le _, Nat.zero_le _⟩ dX1_lastAhead_35 ?_
          refine A_if_eq C (pc := 38) 43 (by decide) dX1_lastAhead_38 hf (fun _ hf => ?_) (fun _ hf => ?_)
          · refine A_iinc C (pc := 43) (k0 := 3) [(0, .ref (B + q0)), (1, .int x1), (2, .int x2), (3, .int (x3 + 1))] rfl ic_1 (by decide) [1, 2, 3, 0] rfl dX1_lastAhead_43 ?_
            refine A_goto C (pc := 46) 4 (by decide) dX1_lastAhead_46 ?_
            exact hk4 _ _ hf
          · refine A_iload_n C (pc := 41) 3 rfl dX1_lastAhead_41 ?_
            refine A_istore_n C (pc := 42) [(0, .ref (B + q0)), (1, .int x1), (2, .int x3), (3, .int x3)] rfl (by decide) [1, 2, 0, 3] rfl dX1_lastAhead_42 ?_
            refine A_iinc C (pc := 43) (k0 := 3) [(0, .ref (B + q0)), (1, .int x1), (2, .int x3), (3, .int (x3 + 1))] rfl ic_1 (by decide) [1, 2, 3, 0] rfl dX1_lastAhead_43 ?_
            refine A_goto C (pc := 46) 4 (by decide) dX1_lastAhead_46 ?_
            exact hk4 _ _ hf
        · refine A_iload_n C (pc := 25) 2 rfl dX1_lastAhead_25 ?_
          refine A_iload_n C (pc := 26) 3 rfl dX1_lastAhead_26 ?_
          obtain ⟨z27, h27, hf⟩ := bd_i hf
          refine A_callS1 C (pc := 27) (A := [.int x2, .int x3]) (rest := []) k_X1_25 ky_X1_isAhead ks_X1_isAhead (m_X1_isAhead l B D Y o  h27) rfl rfl (Nat.le_of_ble_eq_true rfl) ⟨rfl, rfl, Nat.le_of_ble_eq_true rfl, Nat.le_of_ble_eq_true rfl⟩ ⟨Nat.zero_le _, Nat.zero_le _⟩ dX1_lastAhead_27 ?_
          refine A_if_eq C (pc := 30) 43 (by decide) dX1_lastAhead_30 hf (fun _ hf => ?_) (fun _ hf => ?_)
          · refine A_iinc C (pc := 43) (k0 := 3) [(0, .ref (B + q0)), (1, .int x1), (2, .int x2), (3, .int (x3 + 1))] rfl ic_1 (by decide) [1, 2, 3, 0] rfl dX1_lastAhead_43 ?_
            refine A_goto C (pc := 46) 4 (by decide) dX1_lastAhead_46 ?_
            exact hk4 _ _ hf
          · refine A_aload_n C (pc := 33) 0 rfl dX1_lastAhead_33 ?_
            refine A_iload_n C (pc := 34) 3 rfl dX1_lastAhead_34 ?_
            obtain ⟨z35, h35, hf⟩ := bd_i hf
            refine A_callV1 C (pc := 35) (A := [.int x3]) (rest := []) k_X1_21 ky_X3_isClosedBelow kv_X3_isClosedBelow (m_X3_isClosedBelow l B D Y o hq0 h35) (kO hq0).1 (ent2 hq0) rfl rfl rfl (Nat.le_of_ble_eq_true rfl) ⟨rfl, rfl, Nat.le_of_ble_eq_true rfl, Nat.le_of_ble_eq_true rfl⟩ ⟨Nat.zero_le _, Nat.zero_le _⟩ dX1_lastAhead_35 ?_
            refine A_if_eq C (pc := 38) 43 (by decide) dX1_lastAhead_38 hf (fun _ hf => ?_) (fun _ hf => ?_)
            · refine A_iinc C (pc := 43) (k0 := 3) [(0, .ref (B + q0)), (1, .int x1), (2, .int x2), (3, .int (x3 + 1))] rfl ic_1 (by decide) [1, 2, 3, 0] rfl dX1_lastAhead_43 ?_
              refine A_goto C (pc := 46) 4 (by decide) dX1_lastAhead_46 ?_
              exact hk4 _ _ hf
            · refine A_iload_n C (pc := 41) 3 rfl dX1_lastAhead_41 ?_
              refine A_istore_n C (pc := 42) [(0, .ref (B + q0)), (1, .int x1), (2, .int x3), (3, .int x3)] rfl (by decide) [1, 2, 0, 3] rfl dX1_lastAhead_42 ?_
              refine A_iinc C (pc := 43) (k0 := 3) [(0, .ref (B + q0)), (1, .int x1), (2, .int x3), (3, .int (x3 + 1))] rfl ic_1 (by decide) [1, 2, 3, 0] rfl dX1_lastAhead_43 ?_
              refine A_goto C (pc := 46) 4 (by decide) dX1_lastAhead_46 ?_
              exact hk4 _ _ hf
set_option maxRecDepth 100000 in
theorem m_X1_lastAhead (l : Launch) (B : Nat) (D : va_G) (Y : Nat → ClassId) (o : Ou) {M : Mem} {q0 : Nat} {x1 : Int32} {r : Int32} (hq0 : kd q0 = 2) (hf : f_X1_lastAhead M q0 x1 = some r) : MW l yX1_lastAhead cX1_lastAhead 4 (some .int) rm_X1_lastAhead B D Y o [.ref (B + q0), .int x1] M M (some (.int r)) := by
  refine ofAt (L0 := [(0, .ref (B + q0)), (1, .int x1)]) (by decide +kernel) (Nat.le_of_ble_eq_true rfl) rfl (fun p e s m args below meth c C hr hk => ?_)
  dsimp only [f_X1_lastAhead] at hf
  refine A_iconst C (pc := 0) ic_m1 dX1_lastAhead_0 ?_
  refine A_istore_n C (pc := 1) [(0, .ref (B + q0)), (1, .int x1), (2, .int ((-1)))] rfl (by decide) [1, 2, 0] rfl dX1_lastAhead_1 ?_
  refine A_iconst C (pc := 2) ic_0 dX1_lastAhead_2 ?_
  refine A_istore_n C (pc := 3) [(0, .ref (B + q0)), (1, .int x1), (2, .int ((-1))), (3, .int 0)] rfl (by decide) [1, 2, 3, 0] rfl dX1_lastAhead_3 ?_
  exact w_X1_lastAhead_L4 C hr hk hq0 FU _ _  hf
set_option maxRecDepth 100000 in
theorem w_X1_firstBehind_L4 {M : Mem} {q0 : Nat} {x1 : Int32} {r : Int32} (C : Cx p s m args c cX1_firstBehind 4 RX1 B D Y) (hr : meth.sig.returnType = (some .int)) (hk : meth.locks = false) (hq0 : kd q0 = 2) : ∀ (n : Nat) (x2 : Int32) (x3 : Int32), f_X1_firstBehind_L4 M q0 x1 n (x2, x3) = some r → At p l e rm_X1_firstBehind s m args below meth c 4 0 0 (QQ below args s B D Y M o (some (.int r))) B D Y o 4 M [(0, .ref (B + q0)), (1, .int x1), (2, .int x2), (3, .int x3)] [] := by
  intro n
  induction n with
  | zero => intro x2 x3 hf; exact nomatch (show (none : Option Int32) = some r from hf)
  | succ n hk4 =>
    intro x2 x3 hf
    replace hf : g_X1_firstBehind_L4 M q0 x1 (f_X1_firstBehind_L4 M q0 x1 n) (x2, x3) = some r := hf
    dsimp only [g_X1_firstBehind_L4] at hf
    refine A_iload_n C (pc := 4) 3 rfl dX1_firstBehind_4 ?_
    refine A_aload_n C (pc := 5) 0 rfl dX1_firstBehind_5 ?_
    obtain ⟨z6, h6, hf⟩ := bd_i hf
    refine A_callV1 C (pc := 6) (A := []) (rest := [.int x3]) k_X1_15 ky_X3_setLimit kv_X3_setLimit (m_X3_setLimit l B D Y o hq0 h6) (kO hq0).1 (ent2 hq0) rfl rfl rfl (Nat.le_of_ble_eq_true rfl) ⟨rfl, rfl, Nat.le_of_ble_eq_true rfl, Nat.le_of_ble_eq_true rfl⟩ ⟨Nat.zero_le _, Nat.zero_le _⟩ dX1_firstBehind_6 ?_
    refine A_icmp_ge C (pc := 9) 49 (by decide) dX1_firstBehind_9 hf (fun _ hf => ?_) (fun _ hf => ?_)
    · refine A_iload_n C (pc := 49) 2 rfl dX1_firstBehind_49 ?_
      exact R_iP C (pc := 50) hr hk rfl dX1_firstBehind_50 hf
    · refine A_iload_n C (pc := 12) 1 rfl dX1_firstBehind_12 ?_
      refine A_iload_n C (pc := 13) 3 rfl dX1_firstBehind_13 ?_
      obtain ⟨z14, h14, hf⟩ := bd_i hf
      refine A_callS1 C (pc := 14) (A := [.int x1, .int x3]) (rest := []) k_X1_25 ky_X1_isAhead ks_X1_isAhead (m_X1_isAhead l B D Y o  h14) rfl rfl (Nat.le_of_ble_eq_true rfl) ⟨rfl, rfl, Nat.le_of_ble_eq_true rfl, Nat.le_of_ble_eq_true rfl⟩ ⟨Nat.zero_le _, Nat.zero_le _⟩ dX1_firstBehind_14 ?_
      refine A_if_eq C (pc := 17) 43 (by decide) dX1_firstBehind_17 hf (fun _ hf => ?_) (fun _ hf => ?_)
      · refine A_iinc C (pc := 43) (k0 := 3) [(0, .ref (B + q0)), (1, .int x1), (2, .int x2), (3, .int (x3 + 1))] rfl ic_1 (by decide) [1, 2, 3, 0] rfl dX1_firstBehind_43 ?_
        refine A_goto C (pc := 46) 4 (by decide) dX1_firstBehind_46 ?_
        exact hk4 _ _ hf
      · refine A_iload_n C (pc := 20) 2 rfl dX1_firstBehind_20 ?_
        refine A_iconst C (pc := 21) ic_m1 dX1_firstBehind_21 ?_
        refine A_icmp_eq C (pc := 22) 33 (by decide) dX1_firstBehind_22 hf (fun _ hf => ?_) (fun _ hf => ?_)
        · refine A_aload_n C (pc := 33) 0 rfl dX1_firstBehind_33 ?_
          refine A_iload_n C (pc := 34) 3 rfl dX1_firstBehind_34 ?_
          obtain ⟨z35, h35, hf⟩ := bd_i hf
          refine A_callV1 C (pc := 35) (A := [.int x3]) (rest := []) k_X1_21 ky_X3_isClosedBelow kv_X3_isClosedBelow (m_X3_isClosedBelow l B D Y o hq0 h35) (kO hq0).1 (ent2 hq0) rfl rfl rfl (Nat.le_of_ble_eq_true rfl) ⟨rfl, rfl, Nat.le_of_ble_eq_true rfl, Nat.le_of_ble_eq_true rfl⟩ ⟨Nat.zero_le _, Nat.zero_le _⟩ dX1_firstBehind_35 ?_
          refine A_if_eq C (pc := 38) 43 (by decide) dX1_firstBehind_38 hf (fun _ hf => ?_) (fun _ hf => ?_)
          · refine A_iinc C (pc := 43) (k0 := 3) [(0, .ref (B + q0)), (1, .int x1), (2, .int x2), (3, .int (x3 + 1))] rfl ic_1 (by decide) [1, 2, 3, 0] rfl dX1_firstBehind_43 ?_
            refine A_goto C (pc := 46) 4 (by decide) dX1_firstBehind_46 ?_
            exact hk4 _ _ hf
          · refine A_iload_n C (pc := 41) 3 rfl dX1_firstBehind_41 ?_
            refine A_istore_n C (pc := 42) [(0, .ref (B + q0)), (1, .int x1), (2, .int x3), (3, .int x3)] rfl (by decide) [1, 2, 0, 3] rfl dX1_firstBehind_42 ?_
            refine A_iinc C (pc := 43) (k0 := 3) [(0, .ref (B + q0)), (1, .int x1), (2, .int x3), (3, .int (x3 + 1))] rfl ic_1 (by decide) [1, 2, 3, 0] rfl dX1_firstBehind_43 ?_
            refine A_goto C (pc := 46) 4 (by decide) dX1_firstBehind_46 ?_
            exact hk4 _ _ hf
        · refine A_iload_n C (pc := 25) 3 rfl dX1_firstBehind_25 ?_
          refine A_iload_n C (pc := 26) 2 rfl dX1_firstBehind_26 ?_
          obtain ⟨z27, h27, hf⟩ := bd_i hf
          refine A_callS1 C (pc := 27) (A := [.int x3, .int x2]) (rest := []) k_X1_25 ky_X1_isAhead ks_X1_isAhead (m_X1_isAhead l B D Y o  h27) rfl rfl (Nat.le_of_ble_eq_true rfl) ⟨rfl, rfl, Nat.le_of_ble_eq_true rfl, Nat.le_of_ble_eq_true rfl⟩ ⟨Nat.zero_le _, Nat.zero_le _⟩ dX1_firstBehind_27 ?_
          refine A_if_eq C (pc := 30) 43 (by decide) dX1_firstBehind_30 hf (fun _ hf => ?_) (fun _ hf => ?_)
          · refine A_iinc C (pc := 43) (k0 := 3) [(0, .ref (B + q0)), (1, .int x1), (2, .int x2), (3, .int (x3 + 1))] rfl ic_1 (by decide) [1, 2, 3, 0] rfl dX1_firstBehind_43 ?_
            refine A_goto C (pc := 46) 4 (by decide) dX1_firstBehind_46 ?_
            exact hk4 _ _ hf
          · refine A_aload_n C (pc := 33) 0 rfl dX1_firstBehind_33 ?_
            refine A_iload_n C (pc := 34) 3 rfl dX1_firstBehind_34 ?_
            obtain ⟨z35, h35, hf⟩ := bd_i hf
            refine A_callV1 C (pc := 35) (A := [.int x3]) (rest := []) k_X1_21 ky_X3_isClosedBelow kv_X3_isClosedBelow (m_X3_isClosedBelow l B D Y o hq0 h35) (kO hq0).1 (ent2 hq0) rfl rfl rfl (Nat.le_of_ble_eq_true rfl) ⟨rfl, rfl, Nat.le_of_ble_eq_true rfl, Nat.le_of_ble_eq_true rfl⟩ ⟨Nat.zero_le _, Nat.zero_le _⟩ dX1_firstBehind_35 ?_
            refine A_if_eq C (pc := 38) 43 (by decide) dX1_firstBehind_38 hf (fun _ hf => ?_) (fun _ hf => ?_)
            · refine A_iinc C (pc := 43) (k0 := 3) [(0, .ref (B + q0)), (1, .int x1), (2, .int x2), (3, .int (x3 + 1))] rfl ic_1 (by decide) [1, 2, 3, 0] rfl dX1_firstBehind_43 ?_
              refine A_goto C (pc := 46) 4 (by decide) dX1_firstBehind_46 ?_
              exact hk4 _ _ hf
            · refine A_iload_n C (pc := 41) 3 rfl dX1_firstBehind_41 ?_
              refine A_istore_n C (pc := 42) [(0, .ref (B + q0)), (1, .int x1), (2, .int x3), (3, .int x3)] rfl (by decide) [1, 2, 0, 3] rfl dX1_firstBehind_42 ?_
              refine A_iinc C (pc := 43) (k0 := 3) [(0, .ref (B + q0)), (1, .int x1), (2, .int x3), (3, .int (x3 + 1))] rfl ic_1 (by decide) [1, 2, 3, 0] rfl dX1_firstBehind_43 ?_
              refine A_goto C (pc := 46) 4 (by decide) dX1_firstBehind_46 ?_
              exact hk4 _ _ hf
set_option maxRecDepth 100000 in
theorem m_X1_firstBehind (l : Launch) (B : Nat) (D : va_G) (Y : Nat → ClassId) (o : Ou) {M : Mem} {q0 : Nat} {x1 : Int32} {r : Int32} (hq0 : kd q0 = 2) (hf : f_X1_firstBehind M q0 x1 = some r) : MW l yX1_firstBehind cX1_firstBehind 4 (some .int) rm_X1_firstBehind B D Y o [.ref (B + q0), .int x1] M M (some (.int r)) := by
  refine ofAt (L0 := [(0, .ref (B + q0)), (1, .int x1)]) (by decide +kernel) (Nat.le_of_ble_eq_true rfl) rfl (fun p e s m args below meth c C hr hk => ?_)
  dsimp only [f_X1_firstBehind] at hf
  refine A_iconst C (pc := 0) ic_m1 dX1_firstBehind_0 ?_
  refine A_istore_n C (pc := 1) [(0, .ref (B + q0)), (1, .int x1), (2, .int ((-1)))] rfl (by decide) [1, 2, 0] rfl dX1_firstBehind_1 ?_
  refine A_iconst C (pc := 2) ic_0 dX1_firstBehind_2 ?_
  refine A_istore_n C (pc := 3) [(0, .ref (B + q0)), (1, .int x1), (2, .int ((-1))), (3, .int 0)] rfl (by decide) [1, 2, 3, 0] rfl dX1_firstBehind_3 ?_
  exact w_X1_firstBehind_L4 C hr hk hq0 FU _ _  hf
set_option maxRecDepth 100000 in
theorem w_X2_sumBelow_L5 {M : Mem} {q0 : Nat} {q1 : Nat} {x2 : Int32} {r : Int32} (C : Cx p s m args c cX2_sumBelow 5 RX2 B D Y) (hr : meth.sig.returnType = (some .int)) (hk : meth.locks = false) (hq0 : kd q0 = 5) (hq1 : kd q1 = 2) : ∀ (n : Nat) (x3 : Int32) (x4 : Int32), f_X2_sumBelow_L5 M q0 q1 x2 n (x3, x4) = some r → At p l e rm_X2_sumBelow s m args below meth c 5 0 0 (QQ below args s B D Y M o (some (.int r))) B D Y o 5 M [(0, .ref (B + q0)), (1, .ref (B + q1)), (2, .int x2), (3, .int x3), (4, .int x4)] [] := by
  intro n
  induction n with
  | zero => intro x3 x4 hf; exact nomatch (show (none : Option Int32) = some r from hf)
  | succ n hk5 =>
    intro x3 x4 hf
    replace hf : g_X2_sumBelow_L5 M q0 q1 x2 (f_X2_sumBelow_L5 M q0 q1 x2 n) (x3, x4) = some r := hf
    dsimp only [g_X2_sumBelow_L5] at hf
    refine A_iload C (pc := 5) 4 rfl dX2_sumBelow_5 ?_
    refine A_aload_n C (pc := 7) 1 rfl dX2_sumBelow_7 ?_
    refine A_g3_0 C (pc := 8) hq1 kf_X2_19 dX2_sumBelow_8 ?_
    refine A_icmp_ge C (pc := 11) 44 (by decide) dX2_sumBelow_11 hf (fun _ hf => ?_) (fun _ hf => ?_)
    · refine A_iload_n C (pc := 44) 3 rfl dX2_sumBelow_44 ?_
      exact R_iP C (pc := 45) hr hk rfl dX2_sumBelow_45 hf
    · refine A_aload_n C (pc := 14) 1 rfl dX2_sumBelow_14 ?_
      refine A_g3_1 C (pc := 15) hq1 kf_X2_33 dX2_sumBelow_15 ?_
      refine A_iload_n C (pc := 18) 2 rfl dX2_sumBelow_18 ?_
      obtain ⟨c19, hf⟩ := chk_i hf
      refine A_iald C (pc := 19) (iO1 hq1) c19 dX2_sumBelow_19 ?_
      refine A_iload C (pc := 20) 4 rfl dX2_sumBelow_20 ?_
      obtain ⟨z22, h22, hf⟩ := bd_i hf
      refine A_callS1 C (pc := 22) (A := [.int (M (q1 + 1) x2.toNatClampNeg), .int x4]) (rest := []) k_X2_45 ky_X6_has ks_X6_has (m_X6_has l B D Y o  h22) rfl rfl (Nat.le_of_ble_eq_true rfl) ⟨rfl, rfl, Nat.le_of_ble_eq_true rfl, Nat.le_of_ble_eq_true rfl⟩ ⟨Nat.zero_le _, Nat.zero_le _⟩ dX2_sumBelow_22 ?_
      refine A_if_eq C (pc := 25) 38 (by decide) dX2_sumBelow_25 hf (fun _ hf => ?_) (fun _ hf => ?_)
      · refine A_iinc C (pc := 38) (k0 := 4) [(0, .ref (B + q0)), (1, .ref (B + q1)), (2, .int x2), (3, .int x3), (4, .int (x4 + 1))] rfl ic_1 (by decide) [1, 2, 3, 4, 0] rfl dX2_sumBelow_38 ?_
        refine A_goto C (pc := 41) 5 (by decide) dX2_sumBelow_41 ?_
        exact hk5 _ _ hf
      · refine A_iload_n C (pc := 28) 3 rfl dX2_sumBelow_28 ?_
        refine A_aload_n C (pc := 29) 0 rfl dX2_sumBelow_29 ?_
        refine A_g2_0 C (pc := 30) hq0 kf_X2_9 dX2_sumBelow_30 ?_
        refine A_iload C (pc := 33) 4 rfl dX2_sumBelow_33 ?_
        obtain ⟨c35, hf⟩ := chk_i hf
        refine A_iald C (pc := 35) (iN1 hq0) c35 dX2_sumBelow_35 ?_
        refine A_iadd C (pc := 36) dX2_sumBelow_36 ?_
        obtain ⟨v37, e37, hf⟩ := bd_i hf
        refine A_nmI e37 ?_
        refine A_istore_n C (pc := 37) [(0, .ref (B + q0)), (1, .ref (B + q1)), (2, .int x2), (3, .int v37), (4, .int x4)] rfl (by decide) [1, 2, 3, 0, 4] rfl dX2_sumBelow_37 ?_
        refine A_iinc C (pc := 38) (k0 := 4) [(0, .ref (B + q0)), (1, .ref (B + q1)), (2, .int x2), (3, .int v37), (4, .int (x4 + 1))] rfl ic_1 (by decide) [1, 2, 3, 4, 0] rfl dX2_sumBelow_38 ?_
        refine A_goto C (pc := 41) 5 (by decide) dX2_sumBelow_41 ?_
        exact hk5 _ _ hf
set_option maxRecDepth 100000 in
theorem m_X2_sumBelow (l : Launch) (B : Nat) (D : va_G) (Y : Nat → ClassId) (o : Ou) {M : Mem} {q0 : Nat} {q1 : Nat} {x2 : Int32} {r : Int32} (hq0 : kd q0 = 5) (hq1 : kd q1 = 2) (hf : f_X2_sumBelow M q0 q1 x2 = some r) : MW l yX2_sumBelow cX2_sumBelow 5 (some .int) rm_X2_sumBelow B D Y o [.ref (B + q0), .ref (B + q1), .int x2] M M (some (.int r)) := by
  refine ofAt (L0 := [(0, .ref (B + q0)), (1, .ref (B + q1)), (2, .int x2)]) (by decide +kernel) (Nat.le_of_ble_eq_true rfl) rfl (fun p e s m args below meth c C hr hk => ?_)
  dsimp only [f_X2_sumBelow] at hf
  refine A_iconst C (pc := 0) ic_0 dX2_sumBelow_0 ?_
  refine A_istore_n C (pc := 1) [(0, .ref (B + q0)), (1, .ref (B + q1)), (2, .int x2), (3, .int 0)] rfl (by decide) [1, 2, 3, 0] rfl dX2_sumBelow_1 ?_
  refine A_iconst C (pc := 2) ic_0 dX2_sumBelow_2 ?_
  refine A_istore C (pc := 3) [(0, .ref (B + q0)), (1, .ref (B + q1)), (2, .int x2), (3, .int 0), (4, .int 0)] (by decide) [1, 2, 3, 4, 0] rfl dX2_sumBelow_3 ?_
  exact w_X2_sumBelow_L5 C hr hk hq0 hq1 FU _ _  hf
set_option maxRecDepth 100000 in
theorem w_X2_fillFrom_L13 {q0 : Nat} {q1 : Nat} {x2 : Int32} {x3 : Int32} {r : Mem} (C : Cx p s m args c cX2_fillFrom 5 RX2 B D Y) (hr : meth.sig.returnType = none) (hk : meth.locks = false) (hq0 : kd q0 = 5) (hq1 : kd q1 = 2) {k2 : (Int32 × Mem) → Option Mem} (hk2 : ∀ (x3 : Int32) (M : Mem), k2 (x3, M) = some r → At p l e rm_X2_fillFrom s m args below meth c 5 0 0 (QQ below args s B D Y r o none) B D Y o 2 M [(0, .ref (B + q0)), (1, .ref (B + q1)), (2, .int x2), (3, .int x3)] []) : ∀ (n : Nat) (x4 : Int32) (M : Mem), f_X2_fillFrom_L13 q0 q1 x2 x3 k2 n (x4, M) = some r → At p l e rm_X2_fillFrom s m args below meth c 5 0 0 (QQ below args s B D Y r o none) B D Y o 13 M [(0, .ref (B + q0)), (1, .ref (B + q1)), (2, .int x2), (3, .int x3), (4, .int x4)] [] := by
  intro n
  induction n with
  | zero => intro x4 M hf; exact nomatch (show (none : Option Mem) = some r from hf)
  | succ n hk13 =>
    intro x4 M hf
    replace hf : g_X2_fillFrom_L13 q0 q1 x2 x3 k2 (f_X2_fillFrom_L13 q0 q1 x2 x3 k2 n) (x4, M) = some r := hf
    dsimp only [g_X2_fillFrom_L13] at hf
    refine A_iload C (pc := 13) 4 rfl dX2_fillFrom_13 ?_
    refine A_aload_n C (pc := 15) 1 rfl dX2_fillFrom_15 ?_
    refine A_g3_0 C (pc := 16) hq1 kf_X2_19 dX2_fillFrom_16 ?_
    refine A_icmp_ge C (pc := 19) 67 (by decide) dX2_fillFrom_19 hf (fun _ hf => ?_) (fun _ hf => ?_)
    · refine A_iinc C (pc := 67) (k0 := 3) [(0, .ref (B + q0)), (1, .ref (B + q1)), (2, .int x2), (3, .int (x3 + 1))] rfl ic_1 (by decide) [1, 2, 3, 0] rfl dX2_fillFrom_67 ?_
      refine A_goto C (pc := 70) 2 (by decide) dX2_fillFrom_70 ?_
      exact hk2 _ _ hf
    · refine A_aload_n C (pc := 22) 1 rfl dX2_fillFrom_22 ?_
      refine A_g3_1 C (pc := 23) hq1 kf_X2_33 dX2_fillFrom_23 ?_
      refine A_iload C (pc := 26) 4 rfl dX2_fillFrom_26 ?_
      obtain ⟨c28, hf⟩ := chk_i hf
      refine A_iald C (pc := 28) (iO1 hq1) c28 dX2_fillFrom_28 ?_
      obtain ⟨z29, h29, hf⟩ := bd_i hf
      refine A_callS1 C (pc := 29) (A := [.int (M (q1 + 1) x4.toNatClampNeg)]) (rest := []) k_X2_36 ky_J6_bitCount_0f7a4 ks_J6_bitCount_0f7a4 (m_J6_bitCount_0f7a4 l B D Y o  h29) rfl rfl (Nat.le_of_ble_eq_true rfl) ⟨rfl, rfl, Nat.le_of_ble_eq_true rfl, Nat.le_of_ble_eq_true rfl⟩ ⟨Nat.zero_le _, Nat.zero_le _⟩ dX2_fillFrom_29 ?_
      refine A_iload_n C (pc := 32) 3 rfl dX2_fillFrom_32 ?_
      refine A_icmp_ne C (pc := 33) 61 (by decide) dX2_fillFrom_33 hf (fun _ hf => ?_) (fun _ hf => ?_)
      · refine A_iinc C (pc := 61) (k0 := 4) [(0, .ref (B + q0)), (1, .ref (B + q1)), (2, .int x2), (3, .int x3), (4, .int (x4 + 1))] rfl ic_1 (by decide) [1, 2, 3, 4, 0] rfl dX2_fillFrom_61 ?_
        refine A_goto C (pc := 64) 13 (by decide) dX2_fillFrom_64 ?_
        exact hk13 _ _ hf
      · refine A_aload_n C (pc := 36) 0 rfl dX2_fillFrom_36 ?_
        refine A_g2_0 C (pc := 37) hq0 kf_X2_9 dX2_fillFrom_37 ?_
        refine A_iload C (pc := 40) 4 rfl dX2_fillFrom_40 ?_
        refine A_iload C (pc := 42) 4 rfl dX2_fillFrom_42 ?_
        refine A_iload_n C (pc := 44) 2 rfl dX2_fillFrom_44 ?_
        refine A_icmp_ne C (pc := 45) 52 (by decide) dX2_fillFrom_45 hf (fun _ hf => ?_) (fun _ hf => ?_)
        · refine A_aload_n C (pc := 52) 0 rfl dX2_fillFrom_52 ?_
          refine A_aload_n C (pc := 53) 1 rfl dX2_fillFrom_53 ?_
          refine A_iload C (pc := 54) 4 rfl dX2_fillFrom_54 ?_
          obtain ⟨z56, h56, hf⟩ := bd_i hf
          refine A_callV1 C (pc := 56) (A := [.ref (B + q1), .int x4]) (rest := [.int x4, .ref (B + (q0 + 1))]) k_X2_41 ky_X2_sumBelow kv_X2_sumBelow (m_X2_sumBelow l B D Y o hq0 hq1 h56) (kN hq0).1 (ent5 hq0) rfl rfl rfl (Nat.le_of_ble_eq_true rfl) ⟨rfl, rfl, Nat.le_of_ble_eq_true rfl, Nat.le_of_ble_eq_true rfl⟩ ⟨Nat.zero_le _, Nat.zero_le _⟩ dX2_fillFrom_56 ?_
          refine A_ineg C (pc := 59) dX2_fillFrom_59 ?_
          obtain ⟨c60, hf⟩ := chk_i hf
          obtain ⟨M60, e60, hf⟩ := bd_i hf
          refine A_iast C (pc := 60) (iN1 hq0) c60 dX2_fillFrom_60 ?_
          refine A_nmM e60 ?_
          refine A_iinc C (pc := 61) (k0 := 4) [(0, .ref (B + q0)), (1, .ref (B + q1)), (2, .int x2), (3, .int x3), (4, .int (x4 + 1))] rfl ic_1 (by decide) [1, 2, 3, 4, 0] rfl dX2_fillFrom_61 ?_
          refine A_goto C (pc := 64) 13 (by decide) dX2_fillFrom_64 ?_
          exact hk13 _ _ hf
        · refine A_iconst C (pc := 48) ic_1 dX2_fillFrom_48 ?_
          refine A_goto C (pc := 49) 60 (by decide) dX2_fillFrom_49 ?_
          obtain ⟨c60, hf⟩ := chk_i hf
          obtain ⟨M60, e60, hf⟩ := bd_i hf
          refine A_iast C (pc := 60) (iN1 hq0) c60 dX2_fillFrom_60 ?_
          refine A_nmM e60 ?_
          refine A_iinc C (pc := 61) (k0 := 4) [(0, .ref (B + q0)), (1, .ref (B + q1)), (2, .int x2), (3, .int x3), (4, .int (x4 + 1))] rfl ic_1 (by decide) [1, 2, 3, 4, 0] rfl dX2_fillFrom_61 ?_
          refine A_goto C (pc := 64) 13 (by decide) dX2_fillFrom_64 ?_
          exact hk13 _ _ hf
set_option maxRecDepth 100000 in
theorem w_X2_fillFrom_L2 {q0 : Nat} {q1 : Nat} {x2 : Int32} {r : Mem} (C : Cx p s m args c cX2_fillFrom 5 RX2 B D Y) (hr : meth.sig.returnType = none) (hk : meth.locks = false) (hq0 : kd q0 = 5) (hq1 : kd q1 = 2) : ∀ (n : Nat) (x3 : Int32) (M : Mem), f_X2_fillFrom_L2 q0 q1 x2 n (x3, M) = some r → At p l e rm_X2_fillFrom s m args below meth c 5 0 0 (QQ below args s B D Y r o none) B D Y o 2 M [(0, .ref (B + q0)), (1, .ref (B + q1)), (2, .int x2), (3, .int x3)] [] := by
  intro n
  induction n with
  | zero => intro x3 M hf; exact nomatch (show (none : Option Mem) = some r from hf)
  | succ n hk2 =>
    intro x3 M hf
    replace hf : g_X2_fillFrom_L2 q0 q1 x2 (f_X2_fillFrom_L2 q0 q1 x2 n) (x3, M) = some r := hf
    dsimp only [g_X2_fillFrom_L2] at hf
    refine A_iload_n C (pc := 2) 3 rfl dX2_fillFrom_2 ?_
    refine A_aload_n C (pc := 3) 1 rfl dX2_fillFrom_3 ?_
    refine A_g3_0 C (pc := 4) hq1 kf_X2_19 dX2_fillFrom_4 ?_
    refine A_icmp_ge C (pc := 7) 73 (by decide) dX2_fillFrom_7 hf (fun _ hf => ?_) (fun _ hf => ?_)
    · exact R_vM C (pc := 73) hr hk dX2_fillFrom_73 hf
    · refine A_iconst C (pc := 10) ic_0 dX2_fillFrom_10 ?_
      refine A_istore C (pc := 11) [(0, .ref (B + q0)), (1, .ref (B + q1)), (2, .int x2), (3, .int x3), (4, .int 0)] (by decide) [1, 2, 3, 4, 0] rfl dX2_fillFrom_11 ?_
      exact w_X2_fillFrom_L13 C hr hk hq0 hq1 hk2 FU _ _  hf
set_option maxRecDepth 100000 in
theorem m_X2_fillFrom (l : Launch) (B : Nat) (D : va_G) (Y : Nat → ClassId) (o : Ou) {M : Mem} {q0 : Nat} {q1 : Nat} {x2 : Int32} {r : Mem} (hq0 : kd q0 = 5) (hq1 : kd q1 = 2) (hf : f_X2_fillFrom M q0 q1 x2 = some r) : MW l yX2_fillFrom cX2_fillFrom 5 none rm_X2_fillFrom B D Y o [.ref (B + q0), .ref (B + q1), .int x2] M r none := by
  refine ofAt (L0 := [(0, .ref (B + q0)), (1, .ref (B + q1)), (2, .int x2)]) (by decide +kernel) (Nat.le_of_ble_eq_true rfl) rfl (fun p e s m args below meth c C hr hk => ?_)
  dsimp only [f_X2_fillFrom] at hf
  refine A_iconst C (pc := 0) ic_0 dX2_fillFrom_0 ?_
  refine A_istore_n C (pc := 1) [(0, .ref (B + q0)), (1, .ref (B + q1)), (2, .int x2), (3, .int 0)] rfl (by decide) [1, 2, 3, 0] rfl dX2_fillFrom_1 ?_
  exact w_X2_fillFrom_L2 C hr hk hq0 hq1 FU _ _  hf
set_option maxRecDepth 100000 in
theorem m_X2_between (l : Launch) (B : Nat) (D : va_G) (Y : Nat → ClassId) (o : Ou) {M : Mem} {q0 : Nat} {q1 : Nat} {x2 : Int32} {x3 : Int32} {r : Int32 × Mem} (hq0 : kd q0 = 5) (hq1 : kd q1 = 2) (hf : f_X2_between M q0 q1 x2 x3 = some r) : MW l yX2_between cX2_between 4 (some .int) rm_X2_between B D Y o [.ref (B + q0), .ref (B + q1), .int x2, .int x3] M r.2 (some (.int r.1)) := by
  refine ofAt (L0 := [(0, .ref (B + q0)), (1, .ref (B + q1)), (2, .int x2), (3, .int x3)]) (by decide +kernel) (Nat.le_of_ble_eq_true rfl) rfl (fun p e s m args below meth c C hr hk => ?_)
  dsimp only [f_X2_between] at hf
  refine A_aload_n C (pc := 0) 0 rfl dX2_between_0 ?_
  refine A_aload_n C (pc := 1) 1 rfl dX2_between_1 ?_
  refine A_iload_n C (pc := 2) 2 rfl dX2_between_2 ?_
  obtain ⟨z3, h3, hf⟩ := bd_i hf
  refine A_callV0 C (pc := 3) (A := [.ref (B + q1), .int x2]) (rest := []) k_X2_15 ky_X2_fillFrom kv_X2_fillFrom (m_X2_fillFrom l B D Y o hq0 hq1 h3) (kN hq0).1 (ent5 hq0) rfl rfl rfl (Nat.le_of_ble_eq_true rfl) ⟨rfl, rfl, Nat.le_of_ble_eq_true rfl, Nat.le_of_ble_eq_true rfl⟩ ⟨Nat.zero_le _, Nat.zero_le _⟩ dX2_between_3 ?_
  refine A_aload_n C (pc := 6) 0 rfl dX2_between_6 ?_
  refine A_g2_0 C (pc := 7) hq0 kf_X2_9 dX2_between_7 ?_
  refine A_iload_n C (pc := 10) 3 rfl dX2_between_10 ?_
  obtain ⟨c11, hf⟩ := chk_i hf
  refine A_iald C (pc := 11) (iN1 hq0) c11 dX2_between_11 ?_
  exact R_iM C (pc := 12) hr hk rfl dX2_between_12 hf
set_option maxRecDepth 100000 in
theorem w_X3_sumUpTo_L9 {M : Mem} {q0 : Nat} {x1 : Int32} {r : Int32} (C : Cx p s m args c cX3_sumUpTo 4 RX3 B D Y) (hr : meth.sig.returnType = (some .int)) (hk : meth.locks = false) (hq0 : kd q0 = 2) : ∀ (n : Nat) (x2 : Int32) (x3 : Int32), f_X3_sumUpTo_L9 M q0 x1 n (x2, x3) = some r → At p l e rm_X3_sumUpTo s m args below meth c 4 0 0 (QQ below args s B D Y M o (some (.int r))) B D Y o 9 M [(0, .ref (B + q0)), (1, .int x1), (2, .int x2), (3, .int x3)] [] := by
  intro n
  induction n with
  | zero => intro x2 x3 hf; exact nomatch (show (none : Option Int32) = some r from hf)
  | succ n hk9 =>
    intro x2 x3 hf
    replace hf : g_X3_sumUpTo_L9 M q0 x1 (f_X3_sumUpTo_L9 M q0 x1 n) (x2, x3) = some r := hf
    dsimp only [g_X3_sumUpTo_L9] at hf
    refine A_iload_n C (pc := 9) 3 rfl dX3_sumUpTo_9 ?_
    refine A_aload_n C (pc := 10) 0 rfl dX3_sumUpTo_10 ?_
    refine A_g3_0 C (pc := 11) hq0 kf_X3_22 dX3_sumUpTo_11 ?_
    refine A_icmp_ge C (pc := 14) 41 (by decide) dX3_sumUpTo_14 hf (fun _ hf => ?_) (fun _ hf => ?_)
    · refine A_iload_n C (pc := 41) 2 rfl dX3_sumUpTo_41 ?_
      exact R_iP C (pc := 42) hr hk rfl dX3_sumUpTo_42 hf
    · refine A_aload_n C (pc := 17) 0 rfl dX3_sumUpTo_17 ?_
      refine A_iload_n C (pc := 18) 3 rfl dX3_sumUpTo_18 ?_
      refine A_iload_n C (pc := 19) 1 rfl dX3_sumUpTo_19 ?_
      obtain ⟨z20, h20, hf⟩ := bd_i hf
      refine A_callV1 C (pc := 20) (A := [.int x3, .int x1]) (rest := []) k_X3_38 ky_X3_isBelow kv_X3_isBelow (m_X3_isBelow l B D Y o hq0 h20) (kO hq0).1 (ent2 hq0) rfl rfl rfl (Nat.le_of_ble_eq_true rfl) ⟨rfl, rfl, Nat.le_of_ble_eq_true rfl, Nat.le_of_ble_eq_true rfl⟩ ⟨Nat.zero_le _, Nat.zero_le _⟩ dX3_sumUpTo_20 ?_
      refine A_if_eq C (pc := 23) 35 (by decide) dX3_sumUpTo_23 hf (fun _ hf => ?_) (fun _ hf => ?_)
      · refine A_iinc C (pc := 35) (k0 := 3) [(0, .ref (B + q0)), (1, .int x1), (2, .int x2), (3, .int (x3 + 1))] rfl ic_1 (by decide) [1, 2, 3, 0] rfl dX3_sumUpTo_35 ?_
        refine A_goto C (pc := 38) 9 (by decide) dX3_sumUpTo_38 ?_
        exact hk9 _ _ hf
      · refine A_iload_n C (pc := 26) 2 rfl dX3_sumUpTo_26 ?_
        refine A_aload_n C (pc := 27) 0 rfl dX3_sumUpTo_27 ?_
        refine A_g3_2 C (pc := 28) hq0 kf_X3_15 dX3_sumUpTo_28 ?_
        refine A_iload_n C (pc := 31) 3 rfl dX3_sumUpTo_31 ?_
        obtain ⟨c32, hf⟩ := chk_i hf
        refine A_iald C (pc := 32) (iO2 hq0) c32 dX3_sumUpTo_32 ?_
        refine A_iadd C (pc := 33) dX3_sumUpTo_33 ?_
        obtain ⟨v34, e34, hf⟩ := bd_i hf
        refine A_nmI e34 ?_
        refine A_istore_n C (pc := 34) [(0, .ref (B + q0)), (1, .int x1), (2, .int v34), (3, .int x3)] rfl (by decide) [1, 2, 0, 3] rfl dX3_sumUpTo_34 ?_
        refine A_iinc C (pc := 35) (k0 := 3) [(0, .ref (B + q0)), (1, .int x1), (2, .int v34), (3, .int (x3 + 1))] rfl ic_1 (by decide) [1, 2, 3, 0] rfl dX3_sumUpTo_35 ?_
        refine A_goto C (pc := 38) 9 (by decide) dX3_sumUpTo_38 ?_
        exact hk9 _ _ hf
set_option maxRecDepth 100000 in
theorem m_X3_sumUpTo (l : Launch) (B : Nat) (D : va_G) (Y : Nat → ClassId) (o : Ou) {M : Mem} {q0 : Nat} {x1 : Int32} {r : Int32} (hq0 : kd q0 = 2) (hf : f_X3_sumUpTo M q0 x1 = some r) : MW l yX3_sumUpTo cX3_sumUpTo 4 (some .int) rm_X3_sumUpTo B D Y o [.ref (B + q0), .int x1] M M (some (.int r)) := by
  refine ofAt (L0 := [(0, .ref (B + q0)), (1, .int x1)]) (by decide +kernel) (Nat.le_of_ble_eq_true rfl) rfl (fun p e s m args below meth c C hr hk => ?_)
  dsimp only [f_X3_sumUpTo] at hf
  refine A_aload_n C (pc := 0) 0 rfl dX3_sumUpTo_0 ?_
  refine A_g3_2 C (pc := 1) hq0 kf_X3_15 dX3_sumUpTo_1 ?_
  refine A_iload_n C (pc := 4) 1 rfl dX3_sumUpTo_4 ?_
  obtain ⟨c5, hf⟩ := chk_i hf
  refine A_iald C (pc := 5) (iO2 hq0) c5 dX3_sumUpTo_5 ?_
  obtain ⟨v6, e6, hf⟩ := bd_i hf
  refine A_nmI e6 ?_
  refine A_istore_n C (pc := 6) [(0, .ref (B + q0)), (1, .int x1), (2, .int v6)] rfl (by decide) [1, 2, 0] rfl dX3_sumUpTo_6 ?_
  refine A_iconst C (pc := 7) ic_0 dX3_sumUpTo_7 ?_
  refine A_istore_n C (pc := 8) [(0, .ref (B + q0)), (1, .int x1), (2, .int v6), (3, .int 0)] rfl (by decide) [1, 2, 3, 0] rfl dX3_sumUpTo_8 ?_
  exact w_X3_sumUpTo_L9 C hr hk hq0 FU _ _  hf
set_option maxRecDepth 100000 in
theorem w_X2_undoSums_L30 {M : Mem} {q0 : Nat} {q1 : Nat} {x2 : Int32} {x3 : Int32} {x4 : Int32} {r : Int32 × Mem} (C : Cx p s m args c cX2_undoSums 5 RX2 B D Y) (hr : meth.sig.returnType = (some .int)) (hk : meth.locks = false) (hq0 : kd q0 = 5) (hq1 : kd q1 = 2) {k5 : (Int32 × Int32 × Mem) → Option (Int32 × Mem)} (hk5 : ∀ (x3 : Int32) (x4 : Int32) (M : Mem), k5 (x3, x4, M) = some r → At p l e rm_X2_undoSums s m args below meth c 5 0 0 (QQ below args s B D Y r.2 o (some (.int r.1))) B D Y o 5 M [(0, .ref (B + q0)), (1, .ref (B + q1)), (2, .int x2), (3, .int x3), (4, .int x4)] []) (hf : f_X2_undoSums_L30 M q0 q1 x2 x3 x4 k5 = some r) : At p l e rm_X2_undoSums s m args below meth c 5 0 0 (QQ below args s B D Y r.2 o (some (.int r.1))) B D Y o 30 M [(0, .ref (B + q0)), (1, .ref (B + q1)), (2, .int x2), (3, .int x3), (4, .int x4)] [] := by
  dsimp only [f_X2_undoSums_L30] at hf
  refine A_aload_n C (pc := 30) 0 rfl dX2_undoSums_30 ?_
  refine A_aload_n C (pc := 31) 1 rfl dX2_undoSums_31 ?_
  refine A_iload C (pc := 32) 4 rfl dX2_undoSums_32 ?_
  obtain ⟨z34, h34, hf⟩ := bd_i hf
  refine A_callV0 C (pc := 34) (A := [.ref (B + q1), .int x4]) (rest := []) k_X2_15 ky_X2_fillFrom kv_X2_fillFrom (m_X2_fillFrom l B D Y o hq0 hq1 h34) (kN hq0).1 (ent5 hq0) rfl rfl rfl (Nat.le_of_ble_eq_true rfl) ⟨rfl, rfl, Nat.le_of_ble_eq_true rfl, Nat.le_of_ble_eq_true rfl⟩ ⟨Nat.zero_le _, Nat.zero_le _⟩ dX2_undoSums_34 ?_
  refine A_iload_n C (pc := 37) 3 rfl dX2_undoSums_37 ?_
  refine A_aload_n C (pc := 38) 1 rfl dX2_undoSums_38 ?_
  refine A_iload C (pc := 39) 4 rfl dX2_undoSums_39 ?_
  obtain ⟨z41, h41, hf⟩ := bd_i hf
  refine A_callV1 C (pc := 41) (A := [.int x4]) (rest := [.int x3]) k_X2_29 ky_X3_sumUpTo kv_X3_sumUpTo (m_X3_sumUpTo l B D Y o hq1 h41) (kO hq1).1 (ent2 hq1) rfl rfl rfl (Nat.le_of_ble_eq_true rfl) ⟨rfl, rfl, Nat.le_of_ble_eq_true rfl, Nat.le_of_ble_eq_true rfl⟩ ⟨Nat.zero_le _, Nat.zero_le _⟩ dX2_undoSums_41 ?_
  refine A_aload_n C (pc := 44) 0 rfl dX2_undoSums_44 ?_
  refine A_g2_0 C (pc := 45) hq0 kf_X2_9 dX2_undoSums_45 ?_
  refine A_iload_n C (pc := 48) 2 rfl dX2_undoSums_48 ?_
  obtain ⟨c49, hf⟩ := chk_i hf
  refine A_iald C (pc := 49) (iN1 hq0) c49 dX2_undoSums_49 ?_
  refine A_imul C (pc := 50) dX2_undoSums_50 ?_
  refine A_iadd C (pc := 51) dX2_undoSums_51 ?_
  obtain ⟨v52, e52, hf⟩ := bd_i hf
  refine A_nmI e52 ?_
  refine A_istore_n C (pc := 52) [(0, .ref (B + q0)), (1, .ref (B + q1)), (2, .int x2), (3, .int v52), (4, .int x4)] rfl (by decide) [1, 2, 3, 0, 4] rfl dX2_undoSums_52 ?_
  refine A_iinc C (pc := 53) (k0 := 4) [(0, .ref (B + q0)), (1, .ref (B + q1)), (2, .int x2), (3, .int v52), (4, .int (x4 + 1))] rfl ic_1 (by decide) [1, 2, 3, 4, 0] rfl dX2_undoSums_53 ?_
  refine A_goto C (pc := 56) 5 (by decide) dX2_undoSums_56 ?_
  exact hk5 _ _ _ hf
set_option maxRecDepth 100000 in
theorem w_X2_undoSums_L5 {q0 : Nat} {q1 : Nat} {x2 : Int32} {r : Int32 × Mem} (C : Cx p s m args c cX2_undoSums 5 RX2 B D Y) (hr : meth.sig.returnType = (some .int)) (hk : meth.locks = false) (hq0 : kd q0 = 5) (hq1 : kd q1 = 2) : ∀ (n : Nat) (x3 : Int32) (x4 : Int32) (M : Mem), f_X2_undoSums_L5 q0 q1 x2 n (x3, x4, M) = some r → At p l e rm_X2_undoSums s m args below meth c 5 0 0 (QQ below args s B D Y r.2 o (some (.int r.1))) B D Y o 5 M [(0, .ref (B + q0)), (1, .ref (B + q1)), (2, .int x2), (3, .int x3), (4, .int x4)] [] := by
  intro n
  induction n with
  | zero => intro x3 x4 M hf; exact nomatch (show (none : Option (Int32 × Mem)) = some r from hf)
  | succ n hk5 =>
    intro x3 x4 M hf
    replace hf : g_X2_undoSums_L5 q0 q1 x2 (f_X2_undoSums_L5 q0 q1 x2 n) (x3, x4, M) = some r := hf
    dsimp only [g_X2_undoSums_L5] at hf
    refine A_iload C (pc := 5) 4 rfl dX2_undoSums_5 ?_
    refine A_aload_n C (pc := 7) 1 rfl dX2_undoSums_7 ?_
    refine A_g3_0 C (pc := 8) hq1 kf_X2_19 dX2_undoSums_8 ?_
    refine A_icmp_ge C (pc := 11) 59 (by decide) dX2_undoSums_11 hf (fun _ hf => ?_) (fun _ hf => ?_)
    · refine A_iload_n C (pc := 59) 3 rfl dX2_undoSums_59 ?_
      exact R_iM C (pc := 60) hr hk rfl dX2_undoSums_60 hf
    · refine A_iload C (pc := 14) 4 rfl dX2_undoSums_14 ?_
      refine A_iload_n C (pc := 16) 2 rfl dX2_undoSums_16 ?_
      refine A_icmp_eq C (pc := 17) 30 (by decide) dX2_undoSums_17 hf (fun _ hf => ?_) (fun _ hf => ?_)
      · exact w_X2_undoSums_L30 C hr hk hq0 hq1 hk5 hf
      · refine A_aload_n C (pc := 20) 1 rfl dX2_undoSums_20 ?_
        refine A_iload C (pc := 21) 4 rfl dX2_undoSums_21 ?_
        refine A_iload_n C (pc := 23) 2 rfl dX2_undoSums_23 ?_
        obtain ⟨z24, h24, hf⟩ := bd_i hf
        refine A_callV1 C (pc := 24) (A := [.int x4, .int x2]) (rest := []) k_X2_25 ky_X3_isBelow kv_X3_isBelow (m_X3_isBelow l B D Y o hq1 h24) (kO hq1).1 (ent2 hq1) rfl rfl rfl (Nat.le_of_ble_eq_true rfl) ⟨rfl, rfl, Nat.le_of_ble_eq_true rfl, Nat.le_of_ble_eq_true rfl⟩ ⟨Nat.zero_le _, Nat.zero_le _⟩ dX2_undoSums_24 ?_
        refine A_if_eq C (pc := 27) 53 (by decide) dX2_undoSums_27 hf (fun _ hf => ?_) (fun _ hf => ?_)
        · refine A_iinc C (pc := 53) (k0 := 4) [(0, .ref (B + q0)), (1, .ref (B + q1)), (2, .int x2), (3, .int x3), (4, .int (x4 + 1))] rfl ic_1 (by decide) [1, 2, 3, 4, 0] rfl dX2_undoSums_53 ?_
          refine A_goto C (pc := 56) 5 (by decide) dX2_undoSums_56 ?_
          exact hk5 _ _ _ hf
        · exact w_X2_undoSums_L30 C hr hk hq0 hq1 hk5 hf
set_option maxRecDepth 100000 in
theorem m_X2_undoSums (l : Launch) (B : Nat) (D : va_G) (Y : Nat → ClassId) (o : Ou) {M : Mem} {q0 : Nat} {q1 : Nat} {x2 : Int32} {r : Int32 × Mem} (hq0 : kd q0 = 5) (hq1 : kd q1 = 2) (hf : f_X2_undoSums M q0 q1 x2 = some r) : MW l yX2_undoSums cX2_undoSums 5 (some .int) rm_X2_undoSums B D Y o [.ref (B + q0), .ref (B + q1), .int x2] M r.2 (some (.int r.1)) := by
  refine ofAt (L0 := [(0, .ref (B + q0)), (1, .ref (B + q1)), (2, .int x2)]) (by decide +kernel) (Nat.le_of_ble_eq_true rfl) rfl (fun p e s m args below meth c C hr hk => ?_)
  dsimp only [f_X2_undoSums] at hf
  refine A_iconst C (pc := 0) ic_0 dX2_undoSums_0 ?_
  refine A_istore_n C (pc := 1) [(0, .ref (B + q0)), (1, .ref (B + q1)), (2, .int x2), (3, .int 0)] rfl (by decide) [1, 2, 3, 0] rfl dX2_undoSums_1 ?_
  refine A_iconst C (pc := 2) ic_0 dX2_undoSums_2 ?_
  refine A_istore C (pc := 3) [(0, .ref (B + q0)), (1, .ref (B + q1)), (2, .int x2), (3, .int 0), (4, .int 0)] (by decide) [1, 2, 3, 4, 0] rfl dX2_undoSums_3 ?_
  exact w_X2_undoSums_L5 C hr hk hq0 hq1 FU _ _ _  hf
set_option maxRecDepth 100000 in
theorem w_X2_vanishFrom_L43 {M : Mem} {q0 : Nat} {q1 : Nat} {x2 : Int32} {x3 : Int32} {r : Int32 × Mem} (C : Cx p s m args c cX2_vanishFrom 6 RX2 B D Y) (hr : meth.sig.returnType = (some .boolean)) (hk : meth.locks = false) (hq0 : kd q0 = 5) (hq1 : kd q1 = 2) {k8 : Int32 → Option (Int32 × Mem)} (hk8 : ∀ (x3 : Int32), k8 x3 = some r → At p l e rm_X2_vanishFrom s m args below meth c 6 0 0 (QQ below args s B D Y r.2 o (some (.int r.1))) B D Y o 8 M [(0, .ref (B + q0)), (1, .ref (B + q1)), (2, .int x2), (3, .int x3)] []) : ∀ (n : Nat) (x4 : Int32) (x5 : Int32), f_X2_vanishFrom_L43 M q0 q1 x2 x3 k8 n (x4, x5) = some r → At p l e rm_X2_vanishFrom s m args below meth c 6 0 0 (QQ below args s B D Y r.2 o (some (.int r.1))) B D Y o 43 M [(0, .ref (B + q0)), (1, .ref (B + q1)), (2, .int x2), (3, .int x3), (4, .int x4), (5, .int x5)] [] := by
  intro n
  induction n with
  | zero => intro x4 x5 hf; exact nomatch (show (none : Option (Int32 × Mem)) = some r from hf)
  | succ n hk43 =>
    intro x4 x5 hf
    replace hf : g_X2_vanishFrom_L43 M q0 q1 x2 x3 k8 (f_X2_vanishFrom_L43 M q0 q1 x2 x3 k8 n) (x4, x5) = some r := hf
    dsimp only [g_X2_vanishFrom_L43] at hf
    refine A_iload C (pc := 43) 5 rfl dX2_vanishFrom_43 ?_
    refine A_aload_n C (pc := 45) 1 rfl dX2_vanishFrom_45 ?_
    refine A_g3_0 C (pc := 46) hq1 kf_X2_19 dX2_vanishFrom_46 ?_
    refine A_icmp_ge C (pc := 49) 94 (by decide) dX2_vanishFrom_49 hf (fun _ hf => ?_) (fun _ hf => ?_)
    · refine A_iload C (pc := 94) 4 rfl dX2_vanishFrom_94 ?_
      refine A_if_eq C (pc := 96) 101 (by decide) dX2_vanishFrom_96 hf (fun _ hf => ?_) (fun _ hf => ?_)
      · refine A_iinc C (pc := 101) (k0 := 3) [(0, .ref (B + q0)), (1, .ref (B + q1)), (2, .int x2), (3, .int (x3 + 1))] rfl ic_1 (by decide) [1, 2, 3, 0] rfl dX2_vanishFrom_101 ?_
        refine A_goto C (pc := 104) 8 (by decide) dX2_vanishFrom_104 ?_
        exact hk8 _ hf
      · refine A_iconst C (pc := 99) ic_0 dX2_vanishFrom_99 ?_
        exact R_iM C (pc := 100) hr hk nz_0 dX2_vanishFrom_100 hf
    · refine A_iload C (pc := 52) 4 rfl dX2_vanishFrom_52 ?_
      refine A_aload_n C (pc := 54) 1 rfl dX2_vanishFrom_54 ?_
      refine A_iload_n C (pc := 55) 2 rfl dX2_vanishFrom_55 ?_
      refine A_iload C (pc := 56) 5 rfl dX2_vanishFrom_56 ?_
      obtain ⟨z58, h58, hf⟩ := bd_i hf
      refine A_callV1 C (pc := 58) (A := [.int x2, .int x5]) (rest := [.int x4]) k_X2_25 ky_X3_isBelow kv_X3_isBelow (m_X3_isBelow l B D Y o hq1 h58) (kO hq1).1 (ent2 hq1) rfl rfl rfl (Nat.le_of_ble_eq_true rfl) ⟨rfl, rfl, Nat.le_of_ble_eq_true rfl, Nat.le_of_ble_eq_true rfl⟩ ⟨Nat.zero_le _, Nat.zero_le _⟩ dX2_vanishFrom_58 ?_
      refine A_if_eq C (pc := 61) 84 (by decide) dX2_vanishFrom_61 hf (fun _ hf => ?_) (fun _ hf => ?_)
      · refine A_iconst C (pc := 84) ic_0 dX2_vanishFrom_84 ?_
        refine A_iadd C (pc := 85) dX2_vanishFrom_85 ?_
        obtain ⟨v86, e86, hf⟩ := bd_i hf
        refine A_nmI e86 ?_
        refine A_istore C (pc := 86) [(0, .ref (B + q0)), (1, .ref (B + q1)), (2, .int x2), (3, .int x3), (4, .int v86), (5, .int x5)] (by decide) [1, 2, 3, 4, 0, 5] rfl dX2_vanishFrom_86 ?_
        refine A_iinc C (pc := 88) (k0 := 5) [(0, .ref (B + q0)), (1, .ref (B + q1)), (2, .int x2), (3, .int x3), (4, .int v86), (5, .int (x5 + 1))] rfl ic_1 (by decide) [1, 2, 3, 4, 5, 0] rfl dX2_vanishFrom_88 ?_
        refine A_goto C (pc := 91) 43 (by decide) dX2_vanishFrom_91 ?_
        exact hk43 _ _ hf
      · refine A_aload_n C (pc := 64) 1 rfl dX2_vanishFrom_64 ?_
        refine A_iload C (pc := 65) 5 rfl dX2_vanishFrom_65 ?_
        refine A_iload_n C (pc := 67) 3 rfl dX2_vanishFrom_67 ?_
        obtain ⟨z68, h68, hf⟩ := bd_i hf
        refine A_callV1 C (pc := 68) (A := [.int x5, .int x3]) (rest := [.int x4]) k_X2_25 ky_X3_isBelow kv_X3_isBelow (m_X3_isBelow l B D Y o hq1 h68) (kO hq1).1 (ent2 hq1) rfl rfl rfl (Nat.le_of_ble_eq_true rfl) ⟨rfl, rfl, Nat.le_of_ble_eq_true rfl, Nat.le_of_ble_eq_true rfl⟩ ⟨Nat.zero_le _, Nat.zero_le _⟩ dX2_vanishFrom_68 ?_
        refine A_if_eq C (pc := 71) 84 (by decide) dX2_vanishFrom_71 hf (fun _ hf => ?_) (fun _ hf => ?_)
        · refine A_iconst C (pc := 84) ic_0 dX2_vanishFrom_84 ?_
          refine A_iadd C (pc := 85) dX2_vanishFrom_85 ?_
          obtain ⟨v86, e86, hf⟩ := bd_i hf
          refine A_nmI e86 ?_
          refine A_istore C (pc := 86) [(0, .ref (B + q0)), (1, .ref (B + q1)), (2, .int x2), (3, .int x3), (4, .int v86), (5, .int x5)] (by decide) [1, 2, 3, 4, 0, 5] rfl dX2_vanishFrom_86 ?_
          refine A_iinc C (pc := 88) (k0 := 5) [(0, .ref (B + q0)), (1, .ref (B + q1)), (2, .int x2), (3, .int x3), (4, .int v86), (5, .int (x5 + 1))] rfl ic_1 (by decide) [1, 2, 3, 4, 5, 0] rfl dX2_vanishFrom_88 ?_
          refine A_goto C (pc := 91) 43 (by decide) dX2_vanishFrom_91 ?_
          exact hk43 _ _ hf
        · refine A_aload_n C (pc := 74) 0 rfl dX2_vanishFrom_74 ?_
          refine A_g2_0 C (pc := 75) hq0 kf_X2_9 dX2_vanishFrom_75 ?_
          refine A_iload C (pc := 78) 5 rfl dX2_vanishFrom_78 ?_
          obtain ⟨c80, hf⟩ := chk_i hf
          refine A_iald C (pc := 80) (iN1 hq0) c80 dX2_vanishFrom_80 ?_
          refine A_goto C (pc := 81) 85 (by decide) dX2_vanishFrom_81 ?_
          refine A_iadd C (pc := 85) dX2_vanishFrom_85 ?_
          obtain ⟨v86, e86, hf⟩ := bd_i hf
          refine A_nmI e86 ?_
          refine A_istore C (pc := 86) [(0, .ref (B + q0)), (1, .ref (B + q1)), (2, .int x2), (3, .int x3), (4, .int v86), (5, .int x5)] (by decide) [1, 2, 3, 4, 0, 5] rfl dX2_vanishFrom_86 ?_
          refine A_iinc C (pc := 88) (k0 := 5) [(0, .ref (B + q0)), (1, .ref (B + q1)), (2, .int x2), (3, .int x3), (4, .int v86), (5, .int (x5 + 1))] rfl ic_1 (by decide) [1, 2, 3, 4, 5, 0] rfl dX2_vanishFrom_88 ?_
          refine A_goto C (pc := 91) 43 (by decide) dX2_vanishFrom_91 ?_
          exact hk43 _ _ hf
set_option maxRecDepth 100000 in
theorem w_X2_vanishFrom_L8 {M : Mem} {q0 : Nat} {q1 : Nat} {x2 : Int32} {r : Int32 × Mem} (C : Cx p s m args c cX2_vanishFrom 6 RX2 B D Y) (hr : meth.sig.returnType = (some .boolean)) (hk : meth.locks = false) (hq0 : kd q0 = 5) (hq1 : kd q1 = 2) : ∀ (n : Nat) (x3 : Int32), f_X2_vanishFrom_L8 M q0 q1 x2 n x3 = some r → At p l e rm_X2_vanishFrom s m args below meth c 6 0 0 (QQ below args s B D Y r.2 o (some (.int r.1))) B D Y o 8 M [(0, .ref (B + q0)), (1, .ref (B + q1)), (2, .int x2), (3, .int x3)] [] := by
  intro n
  induction n with
  | zero => intro x3 hf; exact nomatch (show (none : Option (Int32 × Mem)) = some r from hf)
  | succ n hk8 =>
    intro x3 hf
    replace hf : g_X2_vanishFrom_L8 M q0 q1 x2 (f_X2_vanishFrom_L8 M q0 q1 x2 n) x3 = some r := hf
    dsimp only [g_X2_vanishFrom_L8] at hf
    refine A_iload_n C (pc := 8) 3 rfl dX2_vanishFrom_8 ?_
    refine A_aload_n C (pc := 9) 1 rfl dX2_vanishFrom_9 ?_
    refine A_g3_0 C (pc := 10) hq1 kf_X2_19 dX2_vanishFrom_10 ?_
    refine A_icmp_ge C (pc := 13) 107 (by decide) dX2_vanishFrom_13 hf (fun _ hf => ?_) (fun _ hf => ?_)
    · refine A_iconst C (pc := 107) ic_1 dX2_vanishFrom_107 ?_
      exact R_iM C (pc := 108) hr hk nz_1 dX2_vanishFrom_108 hf
    · refine A_aload_n C (pc := 16) 1 rfl dX2_vanishFrom_16 ?_
      refine A_iload_n C (pc := 17) 2 rfl dX2_vanishFrom_17 ?_
      refine A_iload_n C (pc := 18) 3 rfl dX2_vanishFrom_18 ?_
      obtain ⟨z19, h19, hf⟩ := bd_i hf
      refine A_callV1 C (pc := 19) (A := [.int x2, .int x3]) (rest := []) k_X2_25 ky_X3_isBelow kv_X3_isBelow (m_X3_isBelow l B D Y o hq1 h19) (kO hq1).1 (ent2 hq1) rfl rfl rfl (Nat.le_of_ble_eq_true rfl) ⟨rfl, rfl, Nat.le_of_ble_eq_true rfl, Nat.le_of_ble_eq_true rfl⟩ ⟨Nat.zero_le _, Nat.zero_le _⟩ dX2_vanishFrom_19 ?_
      refine A_if_eq C (pc := 22) 101 (by decide) dX2_vanishFrom_22 hf (fun _ hf => ?_) (fun _ hf => ?_)
      · refine A_iinc C (pc := 101) (k0 := 3) [(0, .ref (B + q0)), (1, .ref (B + q1)), (2, .int x2), (3, .int (x3 + 1))] rfl ic_1 (by decide) [1, 2, 3, 0] rfl dX2_vanishFrom_101 ?_
        refine A_goto C (pc := 104) 8 (by decide) dX2_vanishFrom_104 ?_
        exact hk8 _ hf
      · refine A_aload_n C (pc := 25) 0 rfl dX2_vanishFrom_25 ?_
        refine A_g2_0 C (pc := 26) hq0 kf_X2_9 dX2_vanishFrom_26 ?_
        refine A_iload_n C (pc := 29) 2 rfl dX2_vanishFrom_29 ?_
        obtain ⟨c30, hf⟩ := chk_i hf
        refine A_iald C (pc := 30) (iN1 hq0) c30 dX2_vanishFrom_30 ?_
        refine A_aload_n C (pc := 31) 0 rfl dX2_vanishFrom_31 ?_
        refine A_g2_0 C (pc := 32) hq0 kf_X2_9 dX2_vanishFrom_32 ?_
        refine A_iload_n C (pc := 35) 3 rfl dX2_vanishFrom_35 ?_
        obtain ⟨c36, hf⟩ := chk_i hf
        refine A_iald C (pc := 36) (iN1 hq0) c36 dX2_vanishFrom_36 ?_
        refine A_iadd C (pc := 37) dX2_vanishFrom_37 ?_
        obtain ⟨v38, e38, hf⟩ := bd_i hf
        refine A_nmI e38 ?_
        refine A_istore C (pc := 38) [(0, .ref (B + q0)), (1, .ref (B + q1)), (2, .int x2), (3, .int x3), (4, .int v38)] (by decide) [1, 2, 3, 4, 0] rfl dX2_vanishFrom_38 ?_
        refine A_iconst C (pc := 40) ic_0 dX2_vanishFrom_40 ?_
        refine A_istore C (pc := 41) [(0, .ref (B + q0)), (1, .ref (B + q1)), (2, .int x2), (3, .int x3), (4, .int v38), (5, .int 0)] (by decide) [1, 2, 3, 4, 5, 0] rfl dX2_vanishFrom_41 ?_
        exact w_X2_vanishFrom_L43 C hr hk hq0 hq1 hk8 FU _ _  hf
set_option maxRecDepth 100000 in
theorem m_X2_vanishFrom (l : Launch) (B : Nat) (D : va_G) (Y : Nat → ClassId) (o : Ou) {M : Mem} {q0 : Nat} {q1 : Nat} {x2 : Int32} {r : Int32 × Mem} (hq0 : kd q0 = 5) (hq1 : kd q1 = 2) (hf : f_X2_vanishFrom M q0 q1 x2 = some r) : MW l yX2_vanishFrom cX2_vanishFrom 6 (some .boolean) rm_X2_vanishFrom B D Y o [.ref (B + q0), .ref (B + q1), .int x2] M r.2 (some (.int r.1)) := by
  refine ofAt (L0 := [(0, .ref (B + q0)), (1, .ref (B + q1)), (2, .int x2)]) (by decide +kernel) (Nat.le_of_ble_eq_true rfl) rfl (fun p e s m args below meth c C hr hk => ?_)
  dsimp only [f_X2_vanishFrom] at hf
  refine A_aload_n C (pc := 0) 0 rfl dX2_vanishFrom_0 ?_
  refine A_aload_n C (pc := 1) 1 rfl dX2_vanishFrom_1 ?_
  refine A_iload_n C (pc := 2) 2 rfl dX2_vanishFrom_2 ?_
  obtain ⟨z3, h3, hf⟩ := bd_i hf
  refine A_callV0 C (pc := 3) (A := [.ref (B + q1), .int x2]) (rest := []) k_X2_15 ky_X2_fillFrom kv_X2_fillFrom (m_X2_fillFrom l B D Y o hq0 hq1 h3) (kN hq0).1 (ent5 hq0) rfl rfl rfl (Nat.le_of_ble_eq_true rfl) ⟨rfl, rfl, Nat.le_of_ble_eq_true rfl, Nat.le_of_ble_eq_true rfl⟩ ⟨Nat.zero_le _, Nat.zero_le _⟩ dX2_vanishFrom_3 ?_
  refine A_iconst C (pc := 6) ic_0 dX2_vanishFrom_6 ?_
  refine A_istore_n C (pc := 7) [(0, .ref (B + q0)), (1, .ref (B + q1)), (2, .int x2), (3, .int 0)] rfl (by decide) [1, 2, 3, 0] rfl dX2_vanishFrom_7 ?_
  exact w_X2_vanishFrom_L8 C hr hk hq0 hq1 FU _  hf
set_option maxRecDepth 100000 in
theorem w_X3_clearTo_L7 {q0 : Nat} {r : Mem} (C : Cx p s m args c cX3_clearTo 3 RX3 B D Y) (hr : meth.sig.returnType = none) (hk : meth.locks = false) (hq0 : kd q0 = 2) : ∀ (n : Nat) (x2 : Int32) (M : Mem), f_X3_clearTo_L7 q0 n (x2, M) = some r → At p l e rm_X3_clearTo s m args below meth c 3 0 0 (QQ below args s B D Y r o none) B D Y o 7 M [(0, .ref (B + q0)), (2, .int x2)] [] := by
  intro n
  induction n with
  | zero => intro x2 M hf; exact nomatch (show (none : Option Mem) = some r from hf)
  | succ n hk7 =>
    intro x2 M hf
    replace hf : g_X3_clearTo_L7 q0 (f_X3_clearTo_L7 q0 n) (x2, M) = some r := hf
    dsimp only [g_X3_clearTo_L7] at hf
    refine A_iload_n C (pc := 7) 1 rfl dX3_clearTo_7 ?_
    refine A_bipush C (pc := 8) bc_9 dX3_clearTo_8 ?_
    refine A_icmp_ge C (pc := 10) 33 (by decide) dX3_clearTo_10 hf (fun _ hf => ?_) (fun _ hf => ?_)
    · exact R_vM C (pc := 33) hr hk dX3_clearTo_33 hf
    · refine A_aload_n C (pc := 13) 0 rfl dX3_clearTo_13 ?_
      refine A_g3_1 C (pc := 14) hq0 kf_X3_9 dX3_clearTo_14 ?_
      refine A_iload_n C (pc := 17) 1 rfl dX3_clearTo_17 ?_
      refine A_iconst C (pc := 18) ic_0 dX3_clearTo_18 ?_
      obtain ⟨c19, hf⟩ := chk_i hf
      obtain ⟨M19, e19, hf⟩ := bd_i hf
      refine A_iast C (pc := 19) (iO1 hq0) c19 dX3_clearTo_19 ?_
      refine A_nmM e19 ?_
      refine A_aload_n C (pc := 20) 0 rfl dX3_clearTo_20 ?_
      refine A_g3_2 C (pc := 21) hq0 kf_X3_15 dX3_clearTo_21 ?_
      refine A_iload_n C (pc := 24) 1 rfl dX3_clearTo_24 ?_
      refine A_iconst C (pc := 25) ic_0 dX3_clearTo_25 ?_
      obtain ⟨c26, hf⟩ := chk_i hf
      obtain ⟨M26, e26, hf⟩ := bd_i hf
      refine A_iast C (pc := 26) (iO2 hq0) c26 dX3_clearTo_26 ?_
      refine A_nmM e26 ?_
      refine A_iinc C (pc := 27) (k0 := 1) [(0, .ref (B + q0)), (2, .int (x2 + 1))] rfl ic_1 (by decide) [1, 0] rfl dX3_clearTo_27 ?_
      refine A_goto C (pc := 30) 7 (by decide) dX3_clearTo_30 ?_
      exact hk7 _ _ hf
set_option maxRecDepth 100000 in
theorem m_X3_clearTo (l : Launch) (B : Nat) (D : va_G) (Y : Nat → ClassId) (o : Ou) {M : Mem} {q0 : Nat} {x1 : Int32} {r : Mem} (hq0 : kd q0 = 2) (hf : f_X3_clearTo M q0 x1 = some r) : MW l yX3_clearTo cX3_clearTo 3 none rm_X3_clearTo B D Y o [.ref (B + q0), .int x1] M r none := by
  refine ofAt (L0 := [(0, .ref (B + q0)), (1, .int x1)]) (by decide +kernel) (Nat.le_of_ble_eq_true rfl) rfl (fun p e s m args below meth c C hr hk => ?_)
  dsimp only [f_X3_clearTo] at hf
  refine A_aload_n C (pc := 0) 0 rfl dX3_clearTo_0 ?_
  refine A_iload_n C (pc := 1) 1 rfl dX3_clearTo_1 ?_
  obtain ⟨M2, e2, hf⟩ := bd_i hf
  refine A_p3_0 C (pc := 2) hq0 kf_X3_22 dX3_clearTo_2 ?_
  refine A_nmM e2 ?_
  refine A_iconst C (pc := 5) ic_0 dX3_clearTo_5 ?_
  refine A_istore_n C (pc := 6) [(0, .ref (B + q0)), (2, .int 0)] rfl (by decide) [1, 0] rfl dX3_clearTo_6 ?_
  exact w_X3_clearTo_L7 C hr hk hq0 FU _ _  hf
set_option maxRecDepth 100000 in
theorem w_X3_lineUp_L2 {q0 : Nat} {r : Mem} (C : Cx p s m args c cX3_lineUp 2 RX3 B D Y) (hr : meth.sig.returnType = none) (hk : meth.locks = false) (hq0 : kd q0 = 2) : ∀ (n : Nat) (x1 : Int32) (M : Mem), f_X3_lineUp_L2 q0 n (x1, M) = some r → At p l e rm_X3_lineUp s m args below meth c 2 0 0 (QQ below args s B D Y r o none) B D Y o 2 M [(0, .ref (B + q0)), (1, .int x1)] [] := by
  intro n
  induction n with
  | zero => intro x1 M hf; exact nomatch (show (none : Option Mem) = some r from hf)
  | succ n hk2 =>
    intro x1 M hf
    replace hf : g_X3_lineUp_L2 q0 (f_X3_lineUp_L2 q0 n) (x1, M) = some r := hf
    dsimp only [g_X3_lineUp_L2] at hf
    refine A_iload_n C (pc := 2) 1 rfl dX3_lineUp_2 ?_
    refine A_aload_n C (pc := 3) 0 rfl dX3_lineUp_3 ?_
    refine A_g3_0 C (pc := 4) hq0 kf_X3_22 dX3_lineUp_4 ?_
    refine A_icmp_ge C (pc := 7) 27 (by decide) dX3_lineUp_7 hf (fun _ hf => ?_) (fun _ hf => ?_)
    · exact R_vM C (pc := 27) hr hk dX3_lineUp_27 hf
    · refine A_aload_n C (pc := 10) 0 rfl dX3_lineUp_10 ?_
      refine A_g3_1 C (pc := 11) hq0 kf_X3_9 dX3_lineUp_11 ?_
      refine A_iload_n C (pc := 14) 1 rfl dX3_lineUp_14 ?_
      refine A_iconst C (pc := 15) ic_1 dX3_lineUp_15 ?_
      refine A_iload_n C (pc := 16) 1 rfl dX3_lineUp_16 ?_
      refine A_ishl C (pc := 17) dX3_lineUp_17 ?_
      refine A_iconst C (pc := 18) ic_1 dX3_lineUp_18 ?_
      refine A_isub C (pc := 19) dX3_lineUp_19 ?_
      obtain ⟨c20, hf⟩ := chk_i hf
      obtain ⟨M20, e20, hf⟩ := bd_i hf
      refine A_iast C (pc := 20) (iO1 hq0) c20 dX3_lineUp_20 ?_
      refine A_nmM e20 ?_
      refine A_iinc C (pc := 21) (k0 := 1) [(0, .ref (B + q0)), (1, .int (x1 + 1))] rfl ic_1 (by decide) [1, 0] rfl dX3_lineUp_21 ?_
      refine A_goto C (pc := 24) 2 (by decide) dX3_lineUp_24 ?_
      exact hk2 _ _ hf
set_option maxRecDepth 100000 in
theorem m_X3_lineUp (l : Launch) (B : Nat) (D : va_G) (Y : Nat → ClassId) (o : Ou) {M : Mem} {q0 : Nat} {r : Mem} (hq0 : kd q0 = 2) (hf : f_X3_lineUp M q0 = some r) : MW l yX3_lineUp cX3_lineUp 2 none rm_X3_lineUp B D Y o [.ref (B + q0)] M r none := by
  refine ofAt (L0 := [(0, .ref (B + q0))]) (by decide +kernel) (Nat.le_of_ble_eq_true rfl) rfl (fun p e s m args below meth c C hr hk => ?_)
  dsimp only [f_X3_lineUp] at hf
  refine A_iconst C (pc := 0) ic_0 dX3_lineUp_0 ?_
  refine A_istore_n C (pc := 1) [(0, .ref (B + q0)), (1, .int 0)] rfl (by decide) [1, 0] rfl dX3_lineUp_1 ?_
  exact w_X3_lineUp_L2 C hr hk hq0 FU _ _  hf
set_option maxRecDepth 100000 in
theorem w_X3_standAs_L4 {q0 : Nat} {q1 : Nat} {r : Mem} (C : Cx p s m args c cX3_standAs 5 RX3 B D Y) (hr : meth.sig.returnType = none) (hk : meth.locks = false) (hq0 : kd q0 = 2) (hq1 : IA q1 9) : ∀ (n : Nat) (x2 : Int32) (x3 : Int32) (M : Mem), f_X3_standAs_L4 q0 q1 n (x2, x3, M) = some r → At p l e rm_X3_standAs s m args below meth c 5 0 0 (QQ below args s B D Y r o none) B D Y o 4 M [(0, .ref (B + q0)), (1, .ref (B + q1)), (2, .int x2), (3, .int x3)] [] := by
  intro n
  induction n with
  | zero => intro x2 x3 M hf; exact nomatch (show (none : Option Mem) = some r from hf)
  | succ n hk4 =>
    intro x2 x3 M hf
    replace hf : g_X3_standAs_L4 q0 q1 (f_X3_standAs_L4 q0 q1 n) (x2, x3, M) = some r := hf
    dsimp only [g_X3_standAs_L4] at hf
    refine A_iload_n C (pc := 4) 3 rfl dX3_standAs_4 ?_
    refine A_aload_n C (pc := 5) 0 rfl dX3_standAs_5 ?_
    refine A_g3_0 C (pc := 6) hq0 kf_X3_22 dX3_standAs_6 ?_
    refine A_icmp_ge C (pc := 9) 47 (by decide) dX3_standAs_9 hf (fun _ hf => ?_) (fun _ hf => ?_)
    · exact R_vM C (pc := 47) hr hk dX3_standAs_47 hf
    · refine A_aload_n C (pc := 12) 1 rfl dX3_standAs_12 ?_
      refine A_iload_n C (pc := 13) 3 rfl dX3_standAs_13 ?_
      obtain ⟨c14, hf⟩ := chk_i hf
      refine A_iald C (pc := 14) hq1 c14 dX3_standAs_14 ?_
      obtain ⟨v15, e15, hf⟩ := bd_i hf
      refine A_nmI e15 ?_
      refine A_istore C (pc := 15) [(0, .ref (B + q0)), (1, .ref (B + q1)), (2, .int x2), (3, .int x3), (4, .int v15)] (by decide) [1, 2, 3, 4, 0] rfl dX3_standAs_15 ?_
      refine A_aload_n C (pc := 17) 0 rfl dX3_standAs_17 ?_
      refine A_iload C (pc := 18) 4 rfl dX3_standAs_18 ?_
      obtain ⟨z20, h20, hf⟩ := bd_i hf
      refine A_callV1 C (pc := 20) (A := [.int v15]) (rest := []) k_X3_26 ky_X3_hasThing kv_X3_hasThing (m_X3_hasThing l B D Y o hq0 h20) (kO hq0).1 (ent2 hq0) rfl rfl rfl (Nat.le_of_ble_eq_true rfl) ⟨rfl, rfl, Nat.le_of_ble_eq_true rfl, Nat.le_of_ble_eq_true rfl⟩ ⟨Nat.zero_le _, Nat.zero_le _⟩ dX3_standAs_20 ?_
      refine A_if_eq C (pc := 23) 41 (by decide) dX3_standAs_23 hf (fun _ hf => ?_) (fun _ hf => ?_)
      · refine A_iinc C (pc := 41) (k0 := 3) [(0, .ref (B + q0)), (1, .ref (B + q1)), (2, .int x2), (3, .int (x3 + 1))] rfl ic_1 (by decide) [1, 2, 3, 0] rfl dX3_standAs_41 ?_
        refine A_goto C (pc := 44) 4 (by decide) dX3_standAs_44 ?_
        exact hk4 _ _ _ hf
      · refine A_aload_n C (pc := 26) 0 rfl dX3_standAs_26 ?_
        refine A_g3_1 C (pc := 27) hq0 kf_X3_9 dX3_standAs_27 ?_
        refine A_iload C (pc := 30) 4 rfl dX3_standAs_30 ?_
        refine A_iload_n C (pc := 32) 2 rfl dX3_standAs_32 ?_
        obtain ⟨c33, hf⟩ := chk_i hf
        obtain ⟨M33, e33, hf⟩ := bd_i hf
        refine A_iast C (pc := 33) (iO1 hq0) c33 dX3_standAs_33 ?_
        refine A_nmM e33 ?_
        refine A_iload_n C (pc := 34) 2 rfl dX3_standAs_34 ?_
        refine A_iconst C (pc := 35) ic_1 dX3_standAs_35 ?_
        refine A_iload C (pc := 36) 4 rfl dX3_standAs_36 ?_
        refine A_ishl C (pc := 38) dX3_standAs_38 ?_
        refine A_ior C (pc := 39) dX3_standAs_39 ?_
        obtain ⟨v40, e40, hf⟩ := bd_i hf
        refine A_nmI e40 ?_
        refine A_istore_n C (pc := 40) [(0, .ref (B + q0)), (1, .ref (B + q1)), (2, .int v40), (3, .int x3)] rfl (by decide) [1, 2, 0, 3] rfl dX3_standAs_40 ?_
        refine A_iinc C (pc := 41) (k0 := 3) [(0, .ref (B + q0)), (1, .ref (B + q1)), (2, .int v40), (3, .int (x3 + 1))] rfl ic_1 (by decide) [1, 2, 3, 0] rfl dX3_standAs_41 ?_
        refine A_goto C (pc := 44) 4 (by decide) dX3_standAs_44 ?_
        exact hk4 _ _ _ hf
set_option maxRecDepth 100000 in
theorem m_X3_standAs (l : Launch) (B : Nat) (D : va_G) (Y : Nat → ClassId) (o : Ou) {M : Mem} {q0 : Nat} {q1 : Nat} {r : Mem} (hq0 : kd q0 = 2) (hq1 : IA q1 9) (hf : f_X3_standAs M q0 q1 = some r) : MW l yX3_standAs cX3_standAs 5 none rm_X3_standAs B D Y o [.ref (B + q0), .ref (B + q1)] M r none := by
  refine ofAt (L0 := [(0, .ref (B + q0)), (1, .ref (B + q1))]) (by decide +kernel) (Nat.le_of_ble_eq_true rfl) rfl (fun p e s m args below meth c C hr hk => ?_)
  dsimp only [f_X3_standAs] at hf
  refine A_iconst C (pc := 0) ic_0 dX3_standAs_0 ?_
  refine A_istore_n C (pc := 1) [(0, .ref (B + q0)), (1, .ref (B + q1)), (2, .int 0)] rfl (by decide) [1, 2, 0] rfl dX3_standAs_1 ?_
  refine A_iconst C (pc := 2) ic_0 dX3_standAs_2 ?_
  refine A_istore_n C (pc := 3) [(0, .ref (B + q0)), (1, .ref (B + q1)), (2, .int 0), (3, .int 0)] rfl (by decide) [1, 2, 3, 0] rfl dX3_standAs_3 ?_
  exact w_X3_standAs_L4 C hr hk hq0 hq1 FU _ _ _  hf
set_option maxRecDepth 100000 in
theorem m_X3_append (l : Launch) (B : Nat) (D : va_G) (Y : Nat → ClassId) (o : Ou) {M : Mem} {q0 : Nat} {x1 : Int32} {r : Int32 × Mem} (hq0 : kd q0 = 2) (hf : f_X3_append M q0 x1 = some r) : MW l yX3_append cX3_append 3 (some .int) rm_X3_append B D Y o [.ref (B + q0), .int x1] M r.2 (some (.int r.1)) := by
  refine ofAt (L0 := [(0, .ref (B + q0)), (1, .int x1)]) (by decide +kernel) (Nat.le_of_ble_eq_true rfl) rfl (fun p e s m args below meth c C hr hk => ?_)
  dsimp only [f_X3_append] at hf
  refine A_aload_n C (pc := 0) 0 rfl dX3_append_0 ?_
  refine A_g3_0 C (pc := 1) hq0 kf_X3_22 dX3_append_1 ?_
  obtain ⟨v4, e4, hf⟩ := bd_i hf
  refine A_nmI e4 ?_
  refine A_istore_n C (pc := 4) [(0, .ref (B + q0)), (1, .int x1), (2, .int v4)] rfl (by decide) [1, 2, 0] rfl dX3_append_4 ?_
  refine A_aload_n C (pc := 5) 0 rfl dX3_append_5 ?_
  refine A_g3_1 C (pc := 6) hq0 kf_X3_9 dX3_append_6 ?_
  refine A_iload_n C (pc := 9) 2 rfl dX3_append_9 ?_
  refine A_iconst C (pc := 10) ic_0 dX3_append_10 ?_
  obtain ⟨c11, hf⟩ := chk_i hf
  obtain ⟨M11, e11, hf⟩ := bd_i hf
  refine A_iast C (pc := 11) (iO1 hq0) c11 dX3_append_11 ?_
  refine A_nmM e11 ?_
  refine A_aload_n C (pc := 12) 0 rfl dX3_append_12 ?_
  refine A_g3_2 C (pc := 13) hq0 kf_X3_15 dX3_append_13 ?_
  refine A_iload_n C (pc := 16) 2 rfl dX3_append_16 ?_
  refine A_iload_n C (pc := 17) 1 rfl dX3_append_17 ?_
  obtain ⟨c18, hf⟩ := chk_i hf
  obtain ⟨M18, e18, hf⟩ := bd_i hf
  refine A_iast C (pc := 18) (iO2 hq0) c18 dX3_append_18 ?_
  refine A_nmM e18 ?_
  refine A_aload_n C (pc := 19) 0 rfl dX3_append_19 ?_
  refine A_dup C (pc := 20) rfl dX3_append_20 ?_
  refine A_g3_0 C (pc := 21) hq0 kf_X3_22 dX3_append_21 ?_
  refine A_iconst C (pc := 24) ic_1 dX3_append_24 ?_
  refine A_iadd C (pc := 25) dX3_append_25 ?_
  obtain ⟨M26, e26, hf⟩ := bd_i hf
  refine A_p3_0 C (pc := 26) hq0 kf_X3_22 dX3_append_26 ?_
  refine A_nmM e26 ?_
  refine A_iload_n C (pc := 29) 2 rfl dX3_append_29 ?_
  exact R_iM C (pc := 30) hr hk rfl dX3_append_30 hf
set_option maxRecDepth 100000 in
theorem w_X3_squeezed_L7 {M0 : Mem} {x0 : Int32} {x1 : Int32} {r : Int32} (C : Cx p s m args c cX3_squeezed 5 RX3 B D Y) (hr : meth.sig.returnType = (some .int)) (hk : meth.locks = false)  : ∀ (n : Nat) (x2 : Int32) (x3 : Int32) (x4 : Int32), f_X3_squeezed_L7 x0 x1 n (x2, x3, x4) = some r → At p l e rm_X3_squeezed s m args below meth c 5 0 0 (QQ below args s B D Y M0 o (some (.int r))) B D Y o 7 M0 [(0, .int x0), (1, .int x1), (2, .int x2), (3, .int x3), (4, .int x4)] [] := by
  intro n
  induction n with
  | zero => intro x2 x3 x4 hf; exact nomatch (show (none : Option Int32) = some r from hf)
  | succ n hk7 =>
    intro x2 x3 x4 hf
    replace hf : g_X3_squeezed_L7 x0 x1 (f_X3_squeezed_L7 x0 x1 n) (x2, x3, x4) = some r := hf
    dsimp only [g_X3_squeezed_L7] at hf
    refine A_iload C (pc := 7) 4 rfl dX3_squeezed_7 ?_
    refine A_bipush C (pc := 9) bc_9 dX3_squeezed_9 ?_
    refine A_icmp_ge C (pc := 11) 47 (by decide) dX3_squeezed_11 hf (fun _ hf => ?_) (fun _ hf => ?_)
    · refine A_iload_n C (pc := 47) 2 rfl dX3_squeezed_47 ?_
      exact R_iP C (pc := 48) hr hk rfl dX3_squeezed_48 hf
    · refine A_iload_n C (pc := 14) 1 rfl dX3_squeezed_14 ?_
      refine A_iload C (pc := 15) 4 rfl dX3_squeezed_15 ?_
      obtain ⟨z17, h17, hf⟩ := bd_i hf
      refine A_callS1 C (pc := 17) (A := [.int x1, .int x4]) (rest := []) k_X3_30 ky_X6_has ks_X6_has (m_X6_has l B D Y o  h17) rfl rfl (Nat.le_of_ble_eq_true rfl) ⟨rfl, rfl, Nat.le_of_ble_eq_true rfl, Nat.le_of_ble_eq_true rfl⟩ ⟨Nat.zero_le _, Nat.zero_le _⟩ dX3_squeezed_17 ?_
      refine A_if_eq C (pc := 20) 41 (by decide) dX3_squeezed_20 hf (fun _ hf => ?_) (fun _ hf => ?_)
      · refine A_iinc C (pc := 41) (k0 := 4) [(0, .int x0), (1, .int x1), (2, .int x2), (3, .int x3), (4, .int (x4 + 1))] rfl ic_1 (by decide) [1, 2, 3, 4, 0] rfl dX3_squeezed_41 ?_
        refine A_goto C (pc := 44) 7 (by decide) dX3_squeezed_44 ?_
        exact hk7 _ _ _ hf
      · refine A_iload_n C (pc := 23) 0 rfl dX3_squeezed_23 ?_
        refine A_iload C (pc := 24) 4 rfl dX3_squeezed_24 ?_
        obtain ⟨z26, h26, hf⟩ := bd_i hf
        refine A_callS1 C (pc := 26) (A := [.int x0, .int x4]) (rest := []) k_X3_30 ky_X6_has ks_X6_has (m_X6_has l B D Y o  h26) rfl rfl (Nat.le_of_ble_eq_true rfl) ⟨rfl, rfl, Nat.le_of_ble_eq_true rfl, Nat.le_of_ble_eq_true rfl⟩ ⟨Nat.zero_le _, Nat.zero_le _⟩ dX3_squeezed_26 ?_
        refine A_if_eq C (pc := 29) 38 (by decide) dX3_squeezed_29 hf (fun _ hf => ?_) (fun _ hf => ?_)
        · refine A_iinc C (pc := 38) (k0 := 3) [(0, .int x0), (1, .int x1), (2, .int x2), (3, .int (x3 + 1)), (4, .int x4)] rfl ic_1 (by decide) [1, 2, 3, 0, 4] rfl dX3_squeezed_38 ?_
          refine A_iinc C (pc := 41) (k0 := 4) [(0, .int x0), (1, .int x1), (2, .int x2), (3, .int (x3 + 1)), (4, .int (x4 + 1))] rfl ic_1 (by decide) [1, 2, 3, 4, 0] rfl dX3_squeezed_41 ?_
          refine A_goto C (pc := 44) 7 (by decide) dX3_squeezed_44 ?_
          exact hk7 _ _ _ hf
        · refine A_iload_n C (pc := 32) 2 rfl dX3_squeezed_32 ?_
          refine A_iconst C (pc := 33) ic_1 dX3_squeezed_33 ?_
          refine A_iload_n C (pc := 34) 3 rfl dX3_squeezed_34 ?_
          refine A_ishl C (pc := 35) dX3_squeezed_35 ?_
          refine A_ior C (pc := 36) dX3_squeezed_36 ?_
          obtain ⟨v37, e37, hf⟩ := bd_i hf
          refine A_nmI e37 ?_
          refine A_istore_n C (pc := 37) [(0, .int x0), (1, .int x1), (2, .int v37), (3, .int x3), (4, .int x4)] rfl (by decide) [1, 2, 0, 3, 4] rfl dX3_squeezed_37 ?_
          refine A_iinc C (pc := 38) (k0 := 3) [(0, .int x0), (1, .int x1), (2, .int v37), (3, .int (x3 + 1)), (4, .int x4)] rfl ic_1 (by decide) [1, 2, 3, 0, 4] rfl dX3_squeezed_38 ?_
          refine A_iinc C (pc := 41) (k0 := 4) [(0, .int x0), (1, .int x1), (2, .int v37), (3, .int (x3 + 1)), (4, .int (x4 + 1))] rfl ic_1 (by decide) [1, 2, 3, 4, 0] rfl dX3_squeezed_41 ?_
          refine A_goto C (pc := 44) 7 (by decide) dX3_squeezed_44 ?_
          exact hk7 _ _ _ hf
set_option maxRecDepth 100000 in
theorem m_X3_squeezed (l : Launch) (B : Nat) (D : va_G) (Y : Nat → ClassId) (o : Ou) {M0 : Mem} {x0 : Int32} {x1 : Int32} {r : Int32}  (hf : f_X3_squeezed x0 x1 = some r) : MW l yX3_squeezed cX3_squeezed 5 (some .int) rm_X3_squeezed B D Y o [.int x0, .int x1] M0 M0 (some (.int r)) := by
  refine ofAt (L0 := [(0, .int x0), (1, .int x1)]) (by decide +kernel) (Nat.le_of_ble_eq_true rfl) rfl (fun p e s m args below meth c C hr hk => ?_)
  dsimp only [f_X3_squeezed] at hf
  refine A_iconst C (pc := 0) ic_0 dX3_squeezed_0 ?_
  refine A_istore_n C (pc := 1) [(0, .int x0), (1, .int x1), (2, .int 0)] rfl (by decide) [1, 2, 0] rfl dX3_squeezed_1 ?_
  refine A_iconst C (pc := 2) ic_0 dX3_squeezed_2 ?_
  refine A_istore_n C (pc := 3) [(0, .int x0), (1, .int x1), (2, .int 0), (3, .int 0)] rfl (by decide) [1, 2, 3, 0] rfl dX3_squeezed_3 ?_
  refine A_iconst C (pc := 4) ic_0 dX3_squeezed_4 ?_
  refine A_istore C (pc := 5) [(0, .int x0), (1, .int x1), (2, .int 0), (3, .int 0), (4, .int 0)] (by decide) [1, 2, 3, 4, 0] rfl dX3_squeezed_5 ?_
  exact w_X3_squeezed_L7 C hr hk FU _ _ _  hf
set_option maxRecDepth 100000 in
theorem w_X3_retain_L4 {q0 : Nat} {x1 : Int32} {r : Mem} (C : Cx p s m args c cX3_retain 4 RX3 B D Y) (hr : meth.sig.returnType = none) (hk : meth.locks = false) (hq0 : kd q0 = 2) : ∀ (n : Nat) (x2 : Int32) (x3 : Int32) (M : Mem), f_X3_retain_L4 q0 x1 n (x2, x3, M) = some r → At p l e rm_X3_retain s m args below meth c 4 0 0 (QQ below args s B D Y r o none) B D Y o 4 M [(0, .ref (B + q0)), (1, .int x1), (2, .int x2), (3, .int x3)] [] := by
  intro n
  induction n with
  | zero => intro x2 x3 M hf; exact nomatch (show (none : Option Mem) = some r from hf)
  | succ n hk4 =>
    intro x2 x3 M hf
    replace hf : g_X3_retain_L4 q0 x1 (f_X3_retain_L4 q0 x1 n) (x2, x3, M) = some r := hf
    dsimp only [g_X3_retain_L4] at hf
    refine A_iload_n C (pc := 4) 3 rfl dX3_retain_4 ?_
    refine A_aload_n C (pc := 5) 0 rfl dX3_retain_5 ?_
    refine A_g3_0 C (pc := 6) hq0 kf_X3_22 dX3_retain_6 ?_
    refine A_icmp_ge C (pc := 9) 57 (by decide) dX3_retain_9 hf (fun _ hf => ?_) (fun _ hf => ?_)
    · refine A_aload_n C (pc := 57) 0 rfl dX3_retain_57 ?_
      refine A_iload_n C (pc := 58) 2 rfl dX3_retain_58 ?_
      obtain ⟨M59, e59, hf⟩ := bd_i hf
      refine A_p3_0 C (pc := 59) hq0 kf_X3_22 dX3_retain_59 ?_
      refine A_nmM e59 ?_
      exact R_vM C (pc := 62) hr hk dX3_retain_62 hf
    · refine A_iload_n C (pc := 12) 1 rfl dX3_retain_12 ?_
      refine A_iload_n C (pc := 13) 3 rfl dX3_retain_13 ?_
      obtain ⟨z14, h14, hf⟩ := bd_i hf
      refine A_callS1 C (pc := 14) (A := [.int x1, .int x3]) (rest := []) k_X3_30 ky_X6_has ks_X6_has (m_X6_has l B D Y o  h14) rfl rfl (Nat.le_of_ble_eq_true rfl) ⟨rfl, rfl, Nat.le_of_ble_eq_true rfl, Nat.le_of_ble_eq_true rfl⟩ ⟨Nat.zero_le _, Nat.zero_le _⟩ dX3_retain_14 ?_
      refine A_if_eq C (pc := 17) 51 (by decide) dX3_retain_17 hf (fun _ hf => ?_) (fun _ hf => ?_)
      · refine A_iinc C (pc := 51) (k0 := 3) [(0, .ref (B + q0)), (1, .int x1), (2, .int x2), (3, .int (x3 + 1))] rfl ic_1 (by decide) [1, 2, 3, 0] rfl dX3_retain_51 ?_
        refine A_goto C (pc := 54) 4 (by decide) dX3_retain_54 ?_
        exact hk4 _ _ _ hf
      · refine A_aload_n C (pc := 20) 0 rfl dX3_retain_20 ?_
        refine A_g3_1 C (pc := 21) hq0 kf_X3_9 dX3_retain_21 ?_
        refine A_iload_n C (pc := 24) 2 rfl dX3_retain_24 ?_
        refine A_aload_n C (pc := 25) 0 rfl dX3_retain_25 ?_
        refine A_g3_1 C (pc := 26) hq0 kf_X3_9 dX3_retain_26 ?_
        refine A_iload_n C (pc := 29) 3 rfl dX3_retain_29 ?_
        obtain ⟨c30, hf⟩ := chk_i hf
        refine A_iald C (pc := 30) (iO1 hq0) c30 dX3_retain_30 ?_
        refine A_iload_n C (pc := 31) 1 rfl dX3_retain_31 ?_
        obtain ⟨z32, h32, hf⟩ := bd_i hf
        refine A_callS1 C (pc := 32) (A := [.int (M (q0 + 1) x3.toNatClampNeg), .int x1]) (rest := [.int x2, .ref (B + (q0 + 1))]) k_X3_34 ky_X3_squeezed ks_X3_squeezed (m_X3_squeezed l B D Y o  h32) rfl rfl (Nat.le_of_ble_eq_true rfl) ⟨rfl, rfl, Nat.le_of_ble_eq_true rfl, Nat.le_of_ble_eq_true rfl⟩ ⟨Nat.zero_le _, Nat.zero_le _⟩ dX3_retain_32 ?_
        obtain ⟨c35, hf⟩ := chk_i hf
        obtain ⟨M35, e35, hf⟩ := bd_i hf
        refine A_iast C (pc := 35) (iO1 hq0) c35 dX3_retain_35 ?_
        refine A_nmM e35 ?_
        refine A_aload_n C (pc := 36) 0 rfl dX3_retain_36 ?_
        refine A_g3_2 C (pc := 37) hq0 kf_X3_15 dX3_retain_37 ?_
        refine A_iload_n C (pc := 40) 2 rfl dX3_retain_40 ?_
        refine A_aload_n C (pc := 41) 0 rfl dX3_retain_41 ?_
        refine A_g3_2 C (pc := 42) hq0 kf_X3_15 dX3_retain_42 ?_
        refine A_iload_n C (pc := 45) 3 rfl dX3_retain_45 ?_
        obtain ⟨c46, hf⟩ := chk_i hf
        refine A_iald C (pc := 46) (iO2 hq0) c46 dX3_retain_46 ?_
        obtain ⟨c47, hf⟩ := chk_i hf
        obtain ⟨M47, e47, hf⟩ := bd_i hf
        refine A_iast C (pc := 47) (iO2 hq0) c47 dX3_retain_47 ?_
        refine A_nmM e47 ?_
        refine A_iinc C (pc := 48) (k0 := 2) [(0, .ref (B + q0)), (1, .int x1), (2, .int (x2 + 1)), (3, .int x3)] rfl ic_1 (by decide) [1, 2, 0, 3] rfl dX3_retain_48 ?_
        refine A_iinc C (pc := 51) (k0 := 3) [(0, .ref (B + q0)), (1, .int x1), (2, .int (x2 + 1)), (3, .int (x3 + 1))] rfl ic_1 (by decide) [1, 2, 3, 0] rfl dX3_retain_51 ?_
        refine A_goto C (pc := 54) 4 (by decide) dX3_retain_54 ?_
        exact hk4 _ _ _ hf
set_option maxRecDepth 100000 in
theorem m_X3_retain (l : Launch) (B : Nat) (D : va_G) (Y : Nat → ClassId) (o : Ou) {M : Mem} {q0 : Nat} {x1 : Int32} {r : Mem} (hq0 : kd q0 = 2) (hf : f_X3_retain M q0 x1 = some r) : MW l yX3_retain cX3_retain 4 none rm_X3_retain B D Y o [.ref (B + q0), .int x1] M r none := by
  refine ofAt (L0 := [(0, .ref (B + q0)), (1, .int x1)]) (by decide +kernel) (Nat.le_of_ble_eq_true rfl) rfl (fun p e s m args below meth c C hr hk => ?_)
  dsimp only [f_X3_retain] at hf
  refine A_iconst C (pc := 0) ic_0 dX3_retain_0 ?_
  refine A_istore_n C (pc := 1) [(0, .ref (B + q0)), (1, .int x1), (2, .int 0)] rfl (by decide) [1, 2, 0] rfl dX3_retain_1 ?_
  refine A_iconst C (pc := 2) ic_0 dX3_retain_2 ?_
  refine A_istore_n C (pc := 3) [(0, .ref (B + q0)), (1, .int x1), (2, .int 0), (3, .int 0)] rfl (by decide) [1, 2, 3, 0] rfl dX3_retain_3 ?_
  exact w_X3_retain_L4 C hr hk hq0 FU _ _ _  hf
set_option maxRecDepth 100000 in
theorem w_X3_pairCount_L4 {M : Mem} {q0 : Nat} {r : Int32} (C : Cx p s m args c cX3_pairCount 3 RX3 B D Y) (hr : meth.sig.returnType = (some .int)) (hk : meth.locks = false) (hq0 : kd q0 = 2) : ∀ (n : Nat) (x1 : Int32) (x2 : Int32), f_X3_pairCount_L4 M q0 n (x1, x2) = some r → At p l e rm_X3_pairCount s m args below meth c 3 0 0 (QQ below args s B D Y M o (some (.int r))) B D Y o 4 M [(0, .ref (B + q0)), (1, .int x1), (2, .int x2)] [] := by
  intro n
  induction n with
  | zero => intro x1 x2 hf; exact nomatch (show (none : Option Int32) = some r from hf)
  | succ n hk4 =>
    intro x1 x2 hf
    replace hf : g_X3_pairCount_L4 M q0 (f_X3_pairCount_L4 M q0 n) (x1, x2) = some r := hf
    dsimp only [g_X3_pairCount_L4] at hf
    refine A_iload_n C (pc := 4) 2 rfl dX3_pairCount_4 ?_
    refine A_aload_n C (pc := 5) 0 rfl dX3_pairCount_5 ?_
    refine A_g3_0 C (pc := 6) hq0 kf_X3_22 dX3_pairCount_6 ?_
    refine A_icmp_ge C (pc := 9) 30 (by decide) dX3_pairCount_9 hf (fun _ hf => ?_) (fun _ hf => ?_)
    · refine A_iload_n C (pc := 30) 1 rfl dX3_pairCount_30 ?_
      exact R_iP C (pc := 31) hr hk rfl dX3_pairCount_31 hf
    · refine A_iload_n C (pc := 12) 1 rfl dX3_pairCount_12 ?_
      refine A_aload_n C (pc := 13) 0 rfl dX3_pairCount_13 ?_
      refine A_g3_1 C (pc := 14) hq0 kf_X3_9 dX3_pairCount_14 ?_
      refine A_iload_n C (pc := 17) 2 rfl dX3_pairCount_17 ?_
      obtain ⟨c18, hf⟩ := chk_i hf
      refine A_iald C (pc := 18) (iO1 hq0) c18 dX3_pairCount_18 ?_
      obtain ⟨z19, h19, hf⟩ := bd_i hf
      refine A_callS1 C (pc := 19) (A := [.int (M (q0 + 1) x2.toNatClampNeg)]) (rest := [.int x1]) k_X3_64 ky_J6_bitCount_0f7a4 ks_J6_bitCount_0f7a4 (m_J6_bitCount_0f7a4 l B D Y o  h19) rfl rfl (Nat.le_of_ble_eq_true rfl) ⟨rfl, rfl, Nat.le_of_ble_eq_true rfl, Nat.le_of_ble_eq_true rfl⟩ ⟨Nat.zero_le _, Nat.zero_le _⟩ dX3_pairCount_19 ?_
      refine A_iadd C (pc := 22) dX3_pairCount_22 ?_
      obtain ⟨v23, e23, hf⟩ := bd_i hf
      refine A_nmI e23 ?_
      refine A_istore_n C (pc := 23) [(0, .ref (B + q0)), (1, .int v23), (2, .int x2)] rfl (by decide) [1, 0, 2] rfl dX3_pairCount_23 ?_
      refine A_iinc C (pc := 24) (k0 := 2) [(0, .ref (B + q0)), (1, .int v23), (2, .int (x2 + 1))] rfl ic_1 (by decide) [1, 2, 0] rfl dX3_pairCount_24 ?_
      refine A_goto C (pc := 27) 4 (by decide) dX3_pairCount_27 ?_
      exact hk4 _ _ hf
set_option maxRecDepth 100000 in
theorem m_X3_pairCount (l : Launch) (B : Nat) (D : va_G) (Y : Nat → ClassId) (o : Ou) {M : Mem} {q0 : Nat} {r : Int32} (hq0 : kd q0 = 2) (hf : f_X3_pairCount M q0 = some r) : MW l yX3_pairCount cX3_pairCount 3 (some .int) rm_X3_pairCount B D Y o [.ref (B + q0)] M M (some (.int r)) := by
  refine ofAt (L0 := [(0, .ref (B + q0))]) (by decide +kernel) (Nat.le_of_ble_eq_true rfl) rfl (fun p e s m args below meth c C hr hk => ?_)
  dsimp only [f_X3_pairCount] at hf
  refine A_iconst C (pc := 0) ic_0 dX3_pairCount_0 ?_
  refine A_istore_n C (pc := 1) [(0, .ref (B + q0)), (1, .int 0)] rfl (by decide) [1, 0] rfl dX3_pairCount_1 ?_
  refine A_iconst C (pc := 2) ic_0 dX3_pairCount_2 ?_
  refine A_istore_n C (pc := 3) [(0, .ref (B + q0)), (1, .int 0), (2, .int 0)] rfl (by decide) [1, 2, 0] rfl dX3_pairCount_3 ?_
  exact w_X3_pairCount_L4 C hr hk hq0 FU _ _  hf
set_option maxRecDepth 100000 in
theorem w_X3_link_L37 {q0 : Nat} {x2 : Int32} {x3 : Int32} {x4 : Int32} {r : Int32 × Mem} (C : Cx p s m args c cX3_link 6 RX3 B D Y) (hr : meth.sig.returnType = (some .int)) (hk : meth.locks = false) (hq0 : kd q0 = 2) : ∀ (n : Nat) (x5 : Int32) (M : Mem), f_X3_link_L37 q0 x2 x3 x4 n (x5, M) = some r → At p l e rm_X3_link s m args below meth c 6 0 0 (QQ below args s B D Y r.2 o (some (.int r.1))) B D Y o 37 M [(0, .ref (B + q0)), (2, .int x2), (3, .int x3), (4, .int x4), (5, .int x5)] [] := by
  intro n
  induction n with
  | zero => intro x5 M hf; exact nomatch (show (none : Option (Int32 × Mem)) = some r from hf)
  | succ n hk37 =>
    intro x5 M hf
    replace hf : g_X3_link_L37 q0 x2 x3 x4 (f_X3_link_L37 q0 x2 x3 x4 n) (x5, M) = some r := hf
    dsimp only [g_X3_link_L37] at hf
    refine A_iload C (pc := 37) 4 rfl dX3_link_37 ?_
    refine A_aload_n C (pc := 39) 0 rfl dX3_link_39 ?_
    refine A_g3_0 C (pc := 40) hq0 kf_X3_22 dX3_link_40 ?_
    refine A_icmp_ge C (pc := 43) 80 (by decide) dX3_link_43 hf (fun _ hf => ?_) (fun _ hf => ?_)
    · refine A_aload_n C (pc := 80) 0 rfl dX3_link_80 ?_
      obtain ⟨z81, h81, hf⟩ := bd_i hf
      refine A_callV1 C (pc := 81) (A := []) (rest := []) k_X3_41 ky_X3_pairCount kv_X3_pairCount (m_X3_pairCount l B D Y o hq0 h81) (kO hq0).1 (ent2 hq0) rfl rfl rfl (Nat.le_of_ble_eq_true rfl) ⟨rfl, rfl, Nat.le_of_ble_eq_true rfl, Nat.le_of_ble_eq_true rfl⟩ ⟨Nat.zero_le _, Nat.zero_le _⟩ dX3_link_81 ?_
      refine A_iload_n C (pc := 84) 2 rfl dX3_link_84 ?_
      refine A_isub C (pc := 85) dX3_link_85 ?_
      exact R_iM C (pc := 86) hr hk rfl dX3_link_86 hf
    · refine A_iload C (pc := 46) 4 rfl dX3_link_46 ?_
      refine A_iload_n C (pc := 48) 1 rfl dX3_link_48 ?_
      refine A_icmp_eq C (pc := 49) 62 (by decide) dX3_link_49 hf (fun _ hf => ?_) (fun _ hf => ?_)
      · refine A_aload_n C (pc := 62) 0 rfl dX3_link_62 ?_
        refine A_g3_1 C (pc := 63) hq0 kf_X3_9 dX3_link_63 ?_
        refine A_iload C (pc := 66) 4 rfl dX3_link_66 ?_
        refine A_dup2 C (pc := 68) rfl rfl dX3_link_68 ?_
        obtain ⟨c69, hf⟩ := chk_i hf
        refine A_iald C (pc := 69) (iO1 hq0) c69 dX3_link_69 ?_
        refine A_iload C (pc := 70) 3 rfl dX3_link_70 ?_
        refine A_ior C (pc := 72) dX3_link_72 ?_
        obtain ⟨c73, hf⟩ := chk_i hf
        obtain ⟨M73, e73, hf⟩ := bd_i hf
        refine A_iast C (pc := 73) (iO1 hq0) c73 dX3_link_73 ?_
        refine A_nmM e73 ?_
        refine A_iinc C (pc := 74) (k0 := 4) [(0, .ref (B + q0)), (2, .int x2), (3, .int x3), (4, .int x4), (5, .int (x5 + 1))] rfl ic_1 (by decide) [1, 2, 3, 4, 0] rfl dX3_link_74 ?_
        refine A_goto C (pc := 77) 37 (by decide) dX3_link_77 ?_
        exact hk37 _ _ hf
      · refine A_aload_n C (pc := 52) 0 rfl dX3_link_52 ?_
        refine A_iload_n C (pc := 53) 1 rfl dX3_link_53 ?_
        refine A_iload C (pc := 54) 4 rfl dX3_link_54 ?_
        obtain ⟨z56, h56, hf⟩ := bd_i hf
        refine A_callV1 C (pc := 56) (A := [.int x2, .int x5]) (rest := []) k_X3_38 ky_X3_isBelow kv_X3_isBelow (m_X3_isBelow l B D Y o hq0 h56) (kO hq0).1 (ent2 hq0) rfl rfl rfl (Nat.le_of_ble_eq_true rfl) ⟨rfl, rfl, Nat.le_of_ble_eq_true rfl, Nat.le_of_ble_eq_true rfl⟩ ⟨Nat.zero_le _, Nat.zero_le _⟩ dX3_link_56 ?_
        refine A_if_eq C (pc := 59) 74 (by decide) dX3_link_59 hf (fun _ hf => ?_) (fun _ hf => ?_)
        · refine A_iinc C (pc := 74) (k0 := 4) [(0, .ref (B + q0)), (2, .int x2), (3, .int x3), (4, .int x4), (5, .int (x5 + 1))] rfl ic_1 (by decide) [1, 2, 3, 4, 0] rfl dX3_link_74 ?_
          refine A_goto C (pc := 77) 37 (by decide) dX3_link_77 ?_
          exact hk37 _ _ hf
        · refine A_aload_n C (pc := 62) 0 rfl dX3_link_62 ?_
          refine A_g3_1 C (pc := 63) hq0 kf_X3_9 dX3_link_63 ?_
          refine A_iload C (pc := 66) 4 rfl dX3_link_66 ?_
          refine A_dup2 C (pc := 68) rfl rfl dX3_link_68 ?_
          obtain ⟨c69, hf⟩ := chk_i hf
          refine A_iald C (pc := 69) (iO1 hq0) c69 dX3_link_69 ?_
          refine A_iload C (pc := 70) 3 rfl dX3_link_70 ?_
          refine A_ior C (pc := 72) dX3_link_72 ?_
          obtain ⟨c73, hf⟩ := chk_i hf
          obtain ⟨M73, e73, hf⟩ := bd_i hf
          refine A_iast C (pc := 73) (iO1 hq0) c73 dX3_link_73 ?_
          refine A_nmM e73 ?_
          refine A_iinc C (pc := 74) (k0 := 4) [(0, .ref (B + q0)), (2, .int x2), (3, .int x3), (4, .int x4), (5, .int (x5 + 1))] rfl ic_1 (by decide) [1, 2, 3, 4, 0] rfl dX3_link_74 ?_
          refine A_goto C (pc := 77) 37 (by decide) dX3_link_77 ?_
          exact hk37 _ _ hf
set_option maxRecDepth 100000 in
theorem m_X3_link (l : Launch) (B : Nat) (D : va_G) (Y : Nat → ClassId) (o : Ou) {M : Mem} {q0 : Nat} {x1 : Int32} {x2 : Int32} {r : Int32 × Mem} (hq0 : kd q0 = 2) (hf : f_X3_link M q0 x1 x2 = some r) : MW l yX3_link cX3_link 6 (some .int) rm_X3_link B D Y o [.ref (B + q0), .int x1, .int x2] M r.2 (some (.int r.1)) := by
  refine ofAt (L0 := [(0, .ref (B + q0)), (1, .int x1), (2, .int x2)]) (by decide +kernel) (Nat.le_of_ble_eq_true rfl) rfl (fun p e s m args below meth c C hr hk => ?_)
  dsimp only [f_X3_link] at hf
  refine A_iload_n C (pc := 0) 1 rfl dX3_link_0 ?_
  refine A_iload_n C (pc := 1) 2 rfl dX3_link_1 ?_
  refine A_icmp_eq C (pc := 2) 14 (by decide) dX3_link_2 hf (fun _ hf => ?_) (fun _ hf => ?_)
  · refine A_bipush C (pc := 14) bc_m9 dX3_link_14 ?_
    exact R_iM C (pc := 16) hr hk rfl dX3_link_16 hf
  · refine A_aload_n C (pc := 5) 0 rfl dX3_link_5 ?_
    refine A_iload_n C (pc := 6) 2 rfl dX3_link_6 ?_
    refine A_iload_n C (pc := 7) 1 rfl dX3_link_7 ?_
    obtain ⟨z8, h8, hf⟩ := bd_i hf
    refine A_callV1 C (pc := 8) (A := [.int x2, .int x1]) (rest := []) k_X3_38 ky_X3_isBelow kv_X3_isBelow (m_X3_isBelow l B D Y o hq0 h8) (kO hq0).1 (ent2 hq0) rfl rfl rfl (Nat.le_of_ble_eq_true rfl) ⟨rfl, rfl, Nat.le_of_ble_eq_true rfl, Nat.le_of_ble_eq_true rfl⟩ ⟨Nat.zero_le _, Nat.zero_le _⟩ dX3_link_8 ?_
    refine A_if_eq C (pc := 11) 17 (by decide) dX3_link_11 hf (fun _ hf => ?_) (fun _ hf => ?_)
    · refine A_aload_n C (pc := 17) 0 rfl dX3_link_17 ?_
      obtain ⟨z18, h18, hf⟩ := bd_i hf
      refine A_callV1 C (pc := 18) (A := []) (rest := []) k_X3_41 ky_X3_pairCount kv_X3_pairCount (m_X3_pairCount l B D Y o hq0 h18) (kO hq0).1 (ent2 hq0) rfl rfl rfl (Nat.le_of_ble_eq_true rfl) ⟨rfl, rfl, Nat.le_of_ble_eq_true rfl, Nat.le_of_ble_eq_true rfl⟩ ⟨Nat.zero_le _, Nat.zero_le _⟩ dX3_link_18 ?_
      refine A_istore_n C (pc := 21) [(0, .ref (B + q0)), (1, .int x1), (2, .int x2), (3, .int z18)] rfl (by decide) [1, 2, 3, 0] rfl dX3_link_21 ?_
      refine A_aload_n C (pc := 22) 0 rfl dX3_link_22 ?_
      refine A_g3_1 C (pc := 23) hq0 kf_X3_9 dX3_link_23 ?_
      refine A_iload_n C (pc := 26) 1 rfl dX3_link_26 ?_
      obtain ⟨c27, hf⟩ := chk_i hf
      refine A_iald C (pc := 27) (iO1 hq0) c27 dX3_link_27 ?_
      refine A_iconst C (pc := 28) ic_1 dX3_link_28 ?_
      refine A_iload_n C (pc := 29) 1 rfl dX3_link_29 ?_
      refine A_ishl C (pc := 30) dX3_link_30 ?_
      refine A_ior C (pc := 31) dX3_link_31 ?_
      obtain ⟨v32, e32, hf⟩ := bd_i hf
      refine A_nmI e32 ?_
      refine A_istore C (pc := 32) [(0, .ref (B + q0)), (2, .int x2), (3, .int z18), (4, .int v32)] (by decide) [1, 3, 4, 0] rfl dX3_link_32 ?_
      refine A_iconst C (pc := 34) ic_0 dX3_link_34 ?_
      refine A_istore C (pc := 35) [(0, .ref (B + q0)), (2, .int x2), (3, .int z18), (4, .int v32), (5, .int 0)] (by decide) [1, 2, 3, 4, 0] rfl dX3_link_35 ?_
      exact w_X3_link_L37 C hr hk hq0 FU _ _  hf
    · refine A_bipush C (pc := 14) bc_m9 dX3_link_14 ?_
      exact R_iM C (pc := 16) hr hk rfl dX3_link_16 hf
set_option maxRecDepth 100000 in
theorem m_X3_cut (l : Launch) (B : Nat) (D : va_G) (Y : Nat → ClassId) (o : Ou) {M : Mem} {q0 : Nat} {x1 : Int32} {x2 : Int32} {r : Mem} (hq0 : kd q0 = 2) (hf : f_X3_cut M q0 x1 x2 = some r) : MW l yX3_cut cX3_cut 3 none rm_X3_cut B D Y o [.ref (B + q0), .int x1, .int x2] M r none := by
  refine ofAt (L0 := [(0, .ref (B + q0)), (1, .int x1), (2, .int x2)]) (by decide +kernel) (Nat.le_of_ble_eq_true rfl) rfl (fun p e s m args below meth c C hr hk => ?_)
  dsimp only [f_X3_cut] at hf
  refine A_aload_n C (pc := 0) 0 rfl dX3_cut_0 ?_
  refine A_g3_1 C (pc := 1) hq0 kf_X3_9 dX3_cut_1 ?_
  refine A_iload_n C (pc := 4) 2 rfl dX3_cut_4 ?_
  refine A_dup2 C (pc := 5) rfl rfl dX3_cut_5 ?_
  obtain ⟨c6, hf⟩ := chk_i hf
  refine A_iald C (pc := 6) (iO1 hq0) c6 dX3_cut_6 ?_
  refine A_iconst C (pc := 7) ic_1 dX3_cut_7 ?_
  refine A_iload_n C (pc := 8) 1 rfl dX3_cut_8 ?_
  refine A_ishl C (pc := 9) dX3_cut_9 ?_
  refine A_iconst C (pc := 10) ic_m1 dX3_cut_10 ?_
  refine A_ixor C (pc := 11) dX3_cut_11 ?_
  refine A_iand C (pc := 12) dX3_cut_12 ?_
  obtain ⟨c13, hf⟩ := chk_i hf
  obtain ⟨M13, e13, hf⟩ := bd_i hf
  refine A_iast C (pc := 13) (iO1 hq0) c13 dX3_cut_13 ?_
  refine A_nmM e13 ?_
  exact R_vM C (pc := 14) hr hk dX3_cut_14 hf
set_option maxRecDepth 100000 in
theorem w_X3_become_L10 {q0 : Nat} {q1 : Nat} {r : Mem} (C : Cx p s m args c cX3_become 3 RX3 B D Y) (hr : meth.sig.returnType = none) (hk : meth.locks = false) (hq0 : kd q0 = 2) (hq1 : kd q1 = 2) : ∀ (n : Nat) (x2 : Int32) (M : Mem), f_X3_become_L10 q0 q1 n (x2, M) = some r → At p l e rm_X3_become s m args below meth c 3 0 0 (QQ below args s B D Y r o none) B D Y o 10 M [(0, .ref (B + q0)), (1, .ref (B + q1)), (2, .int x2)] [] := by
  intro n
  induction n with
  | zero => intro x2 M hf; exact nomatch (show (none : Option Mem) = some r from hf)
  | succ n hk10 =>
    intro x2 M hf
    replace hf : g_X3_become_L10 q0 q1 (f_X3_become_L10 q0 q1 n) (x2, M) = some r := hf
    dsimp only [g_X3_become_L10] at hf
    refine A_iload_n C (pc := 10) 2 rfl dX3_become_10 ?_
    refine A_bipush C (pc := 11) bc_9 dX3_become_11 ?_
    refine A_icmp_ge C (pc := 13) 46 (by decide) dX3_become_13 hf (fun _ hf => ?_) (fun _ hf => ?_)
    · exact R_vM C (pc := 46) hr hk dX3_become_46 hf
    · refine A_aload_n C (pc := 16) 0 rfl dX3_become_16 ?_
      refine A_g3_1 C (pc := 17) hq0 kf_X3_9 dX3_become_17 ?_
      refine A_iload_n C (pc := 20) 2 rfl dX3_become_20 ?_
      refine A_aload_n C (pc := 21) 1 rfl dX3_become_21 ?_
      refine A_g3_1 C (pc := 22) hq1 kf_X3_9 dX3_become_22 ?_
      refine A_iload_n C (pc := 25) 2 rfl dX3_become_25 ?_
      obtain ⟨c26, hf⟩ := chk_i hf
      refine A_iald C (pc := 26) (iO1 hq1) c26 dX3_become_26 ?_
      obtain ⟨c27, hf⟩ := chk_i hf
      obtain ⟨M27, e27, hf⟩ := bd_i hf
      refine A_iast C (pc := 27) (iO1 hq0) c27 dX3_become_27 ?_
      refine A_nmM e27 ?_
      refine A_aload_n C (pc := 28) 0 rfl dX3_become_28 ?_
      refine A_g3_2 C (pc := 29) hq0 kf_X3_15 dX3_become_29 ?_
      refine A_iload_n C (pc := 32) 2 rfl dX3_become_32 ?_
      refine A_aload_n C (pc := 33) 1 rfl dX3_become_33 ?_
      refine A_g3_2 C (pc := 34) hq1 kf_X3_15 dX3_become_34 ?_
      refine A_iload_n C (pc := 37) 2 rfl dX3_become_37 ?_
      obtain ⟨c38, hf⟩ := chk_i hf
      refine A_iald C (pc := 38) (iO2 hq1) c38 dX3_become_38 ?_
      obtain ⟨c39, hf⟩ := chk_i hf
      obtain ⟨M39, e39, hf⟩ := bd_i hf
      refine A_iast C (pc := 39) (iO2 hq0) c39 dX3_become_39 ?_
      refine A_nmM e39 ?_
      refine A_iinc C (pc := 40) (k0 := 2) [(0, .ref (B + q0)), (1, .ref (B + q1)), (2, .int (x2 + 1))] rfl ic_1 (by decide) [1, 2, 0] rfl dX3_become_40 ?_
      refine A_goto C (pc := 43) 10 (by decide) dX3_become_43 ?_
      exact hk10 _ _ hf
set_option maxRecDepth 100000 in
theorem m_X3_become (l : Launch) (B : Nat) (D : va_G) (Y : Nat → ClassId) (o : Ou) {M : Mem} {q0 : Nat} {q1 : Nat} {r : Mem} (hq0 : kd q0 = 2) (hq1 : kd q1 = 2) (hf : f_X3_become M q0 q1 = some r) : MW l yX3_become cX3_become 3 none rm_X3_become B D Y o [.ref (B + q0), .ref (B + q1)] M r none := by
  refine ofAt (L0 := [(0, .ref (B + q0)), (1, .ref (B + q1))]) (by decide +kernel) (Nat.le_of_ble_eq_true rfl) rfl (fun p e s m args below meth c C hr hk => ?_)
  dsimp only [f_X3_become] at hf
  refine A_aload_n C (pc := 0) 0 rfl dX3_become_0 ?_
  refine A_aload_n C (pc := 1) 1 rfl dX3_become_1 ?_
  refine A_g3_0 C (pc := 2) hq1 kf_X3_22 dX3_become_2 ?_
  obtain ⟨M5, e5, hf⟩ := bd_i hf
  refine A_p3_0 C (pc := 5) hq0 kf_X3_22 dX3_become_5 ?_
  refine A_nmM e5 ?_
  refine A_iconst C (pc := 8) ic_0 dX3_become_8 ?_
  refine A_istore_n C (pc := 9) [(0, .ref (B + q0)), (1, .ref (B + q1)), (2, .int 0)] rfl (by decide) [1, 2, 0] rfl dX3_become_9 ?_
  exact w_X3_become_L10 C hr hk hq0 hq1 FU _ _  hf
set_option maxRecDepth 100000 in
theorem w_X3_aboveOf_L4 {M : Mem} {q0 : Nat} {x1 : Int32} {r : Int32} (C : Cx p s m args c cX3_aboveOf 4 RX3 B D Y) (hr : meth.sig.returnType = (some .int)) (hk : meth.locks = false) (hq0 : kd q0 = 2) : ∀ (n : Nat) (x2 : Int32) (x3 : Int32), f_X3_aboveOf_L4 M q0 x1 n (x2, x3) = some r → At p l e rm_X3_aboveOf s m args below meth c 4 0 0 (QQ below args s B D Y M o (some (.int r))) B D Y o 4 M [(0, .ref (B + q0)), (1, .int x1), (2, .int x2), (3, .int x3)] [] := by
  intro n
  induction n with
  | zero => intro x2 x3 hf; exact nomatch (show (none : Option Int32) = some r from hf)
  | succ n hk4 =>
    intro x2 x3 hf
    replace hf : g_X3_aboveOf_L4 M q0 x1 (f_X3_aboveOf_L4 M q0 x1 n) (x2, x3) = some r := hf
    dsimp only [g_X3_aboveOf_L4] at hf
    refine A_iload_n C (pc := 4) 3 rfl dX3_aboveOf_4 ?_
    refine A_aload_n C (pc := 5) 0 rfl dX3_aboveOf_5 ?_
    refine A_g3_0 C (pc := 6) hq0 kf_X3_22 dX3_aboveOf_6 ?_
    refine A_icmp_ge C (pc := 9) 33 (by decide) dX3_aboveOf_9 hf (fun _ hf => ?_) (fun _ hf => ?_)
    · refine A_iload_n C (pc := 33) 2 rfl dX3_aboveOf_33 ?_
      exact R_iP C (pc := 34) hr hk rfl dX3_aboveOf_34 hf
    · refine A_aload_n C (pc := 12) 0 rfl dX3_aboveOf_12 ?_
      refine A_iload_n C (pc := 13) 1 rfl dX3_aboveOf_13 ?_
      refine A_iload_n C (pc := 14) 3 rfl dX3_aboveOf_14 ?_
      obtain ⟨z15, h15, hf⟩ := bd_i hf
      refine A_callV1 C (pc := 15) (A := [.int x1, .int x3]) (rest := []) k_X3_38 ky_X3_isBelow kv_X3_isBelow (m_X3_isBelow l B D Y o hq0 h15) (kO hq0).1 (ent2 hq0) rfl rfl rfl (Nat.le_of_ble_eq_true rfl) ⟨rfl, rfl, Nat.le_of_ble_eq_true rfl, Nat.le_of_ble_eq_true rfl⟩ ⟨Nat.zero_le _, Nat.zero_le _⟩ dX3_aboveOf_15 ?_
      refine A_if_eq C (pc := 18) 27 (by decide) dX3_aboveOf_18 hf (fun _ hf => ?_) (fun _ hf => ?_)
      · refine A_iinc C (pc := 27) (k0 := 3) [(0, .ref (B + q0)), (1, .int x1), (2, .int x2), (3, .int (x3 + 1))] rfl ic_1 (by decide) [1, 2, 3, 0] rfl dX3_aboveOf_27 ?_
        refine A_goto C (pc := 30) 4 (by decide) dX3_aboveOf_30 ?_
        exact hk4 _ _ hf
      · refine A_iload_n C (pc := 21) 2 rfl dX3_aboveOf_21 ?_
        refine A_iconst C (pc := 22) ic_1 dX3_aboveOf_22 ?_
        refine A_iload_n C (pc := 23) 3 rfl dX3_aboveOf_23 ?_
        refine A_ishl C (pc := 24) dX3_aboveOf_24 ?_
        refine A_ior C (pc := 25) dX3_aboveOf_25 ?_
        obtain ⟨v26, e26, hf⟩ := bd_i hf
        refine A_nmI e26 ?_
        refine A_istore_n C (pc := 26) [(0, .ref (B + q0)), (1, .int x1), (2, .int v26), (3, .int x3)] rfl (by decide) [1, 2, 0, 3] rfl dX3_aboveOf_26 ?_
        refine A_iinc C (pc := 27) (k0 := 3) [(0, .ref (B + q0)), (1, .int x1), (2, .int v26), (3, .int (x3 + 1))] rfl ic_1 (by decide) [1, 2, 3, 0] rfl dX3_aboveOf_27 ?_
        refine A_goto C (pc := 30) 4 (by decide) dX3_aboveOf_30 ?_
        exact hk4 _ _ hf
set_option maxRecDepth 100000 in
theorem m_X3_aboveOf (l : Launch) (B : Nat) (D : va_G) (Y : Nat → ClassId) (o : Ou) {M : Mem} {q0 : Nat} {x1 : Int32} {r : Int32} (hq0 : kd q0 = 2) (hf : f_X3_aboveOf M q0 x1 = some r) : MW l yX3_aboveOf cX3_aboveOf 4 (some .int) rm_X3_aboveOf B D Y o [.ref (B + q0), .int x1] M M (some (.int r)) := by
  refine ofAt (L0 := [(0, .ref (B + q0)), (1, .int x1)]) (by decide +kernel) (Nat.le_of_ble_eq_true rfl) rfl (fun p e s m args below meth c C hr hk => ?_)
  dsimp only [f_X3_aboveOf] at hf
  refine A_iconst C (pc := 0) ic_0 dX3_aboveOf_0 ?_
  refine A_istore_n C (pc := 1) [(0, .ref (B + q0)), (1, .int x1), (2, .int 0)] rfl (by decide) [1, 2, 0] rfl dX3_aboveOf_1 ?_
  refine A_iconst C (pc := 2) ic_0 dX3_aboveOf_2 ?_
  refine A_istore_n C (pc := 3) [(0, .ref (B + q0)), (1, .int x1), (2, .int 0), (3, .int 0)] rfl (by decide) [1, 2, 3, 0] rfl dX3_aboveOf_3 ?_
  exact w_X3_aboveOf_L4 C hr hk hq0 FU _ _  hf
set_option maxRecDepth 100000 in
theorem w_X3_becomeTurned_L10 {q0 : Nat} {q1 : Nat} {r : Mem} (C : Cx p s m args c cX3_becomeTurned 3 RX3 B D Y) (hr : meth.sig.returnType = none) (hk : meth.locks = false) (hq0 : kd q0 = 2) (hq1 : kd q1 = 2) : ∀ (n : Nat) (x2 : Int32) (M : Mem), f_X3_becomeTurned_L10 q0 q1 n (x2, M) = some r → At p l e rm_X3_becomeTurned s m args below meth c 3 0 0 (QQ below args s B D Y r o none) B D Y o 10 M [(0, .ref (B + q0)), (1, .ref (B + q1)), (2, .int x2)] [] := by
  intro n
  induction n with
  | zero => intro x2 M hf; exact nomatch (show (none : Option Mem) = some r from hf)
  | succ n hk10 =>
    intro x2 M hf
    replace hf : g_X3_becomeTurned_L10 q0 q1 (f_X3_becomeTurned_L10 q0 q1 n) (x2, M) = some r := hf
    dsimp only [g_X3_becomeTurned_L10] at hf
    refine A_iload_n C (pc := 10) 2 rfl dX3_becomeTurned_10 ?_
    refine A_aload_n C (pc := 11) 0 rfl dX3_becomeTurned_11 ?_
    refine A_g3_0 C (pc := 12) hq0 kf_X3_22 dX3_becomeTurned_12 ?_
    refine A_icmp_ge C (pc := 15) 47 (by decide) dX3_becomeTurned_15 hf (fun _ hf => ?_) (fun _ hf => ?_)
    · exact R_vM C (pc := 47) hr hk dX3_becomeTurned_47 hf
    · refine A_aload_n C (pc := 18) 0 rfl dX3_becomeTurned_18 ?_
      refine A_g3_1 C (pc := 19) hq0 kf_X3_9 dX3_becomeTurned_19 ?_
      refine A_iload_n C (pc := 22) 2 rfl dX3_becomeTurned_22 ?_
      refine A_aload_n C (pc := 23) 1 rfl dX3_becomeTurned_23 ?_
      refine A_iload_n C (pc := 24) 2 rfl dX3_becomeTurned_24 ?_
      obtain ⟨z25, h25, hf⟩ := bd_i hf
      refine A_callV1 C (pc := 25) (A := [.int x2]) (rest := [.int x2, .ref (B + (q0 + 1))]) k_X3_48 ky_X3_aboveOf kv_X3_aboveOf (m_X3_aboveOf l B D Y o hq1 h25) (kO hq1).1 (ent2 hq1) rfl rfl rfl (Nat.le_of_ble_eq_true rfl) ⟨rfl, rfl, Nat.le_of_ble_eq_true rfl, Nat.le_of_ble_eq_true rfl⟩ ⟨Nat.zero_le _, Nat.zero_le _⟩ dX3_becomeTurned_25 ?_
      obtain ⟨c28, hf⟩ := chk_i hf
      obtain ⟨M28, e28, hf⟩ := bd_i hf
      refine A_iast C (pc := 28) (iO1 hq0) c28 dX3_becomeTurned_28 ?_
      refine A_nmM e28 ?_
      refine A_aload_n C (pc := 29) 0 rfl dX3_becomeTurned_29 ?_
      refine A_g3_2 C (pc := 30) hq0 kf_X3_15 dX3_becomeTurned_30 ?_
      refine A_iload_n C (pc := 33) 2 rfl dX3_becomeTurned_33 ?_
      refine A_aload_n C (pc := 34) 1 rfl dX3_becomeTurned_34 ?_
      refine A_g3_2 C (pc := 35) hq1 kf_X3_15 dX3_becomeTurned_35 ?_
      refine A_iload_n C (pc := 38) 2 rfl dX3_becomeTurned_38 ?_
      obtain ⟨c39, hf⟩ := chk_i hf
      refine A_iald C (pc := 39) (iO2 hq1) c39 dX3_becomeTurned_39 ?_
      obtain ⟨c40, hf⟩ := chk_i hf
      obtain ⟨M40, e40, hf⟩ := bd_i hf
      refine A_iast C (pc := 40) (iO2 hq0) c40 dX3_becomeTurned_40 ?_
      refine A_nmM e40 ?_
      refine A_iinc C (pc := 41) (k0 := 2) [(0, .ref (B + q0)), (1, .ref (B + q1)), (2, .int (x2 + 1))] rfl ic_1 (by decide) [1, 2, 0] rfl dX3_becomeTurned_41 ?_
      refine A_goto C (pc := 44) 10 (by decide) dX3_becomeTurned_44 ?_
      exact hk10 _ _ hf
set_option maxRecDepth 100000 in
theorem m_X3_becomeTurned (l : Launch) (B : Nat) (D : va_G) (Y : Nat → ClassId) (o : Ou) {M : Mem} {q0 : Nat} {q1 : Nat} {r : Mem} (hq0 : kd q0 = 2) (hq1 : kd q1 = 2) (hf : f_X3_becomeTurned M q0 q1 = some r) : MW l yX3_becomeTurned cX3_becomeTurned 3 none rm_X3_becomeTurned B D Y o [.ref (B + q0), .ref (B + q1)] M r none := by
  refine ofAt (L0 := [(0, .ref (B + q0)), (1, .ref (B + q1))]) (by decide +kernel) (Nat.le_of_ble_eq_true rfl) rfl (fun p e s m args below meth c C hr hk => ?_)
  dsimp only [f_X3_becomeTurned] at hf
  refine A_aload_n C (pc := 0) 0 rfl dX3_becomeTurned_0 ?_
  refine A_aload_n C (pc := 1) 1 rfl dX3_becomeTurned_1 ?_
  refine A_g3_0 C (pc := 2) hq1 kf_X3_22 dX3_becomeTurned_2 ?_
  obtain ⟨z5, h5, hf⟩ := bd_i hf
  refine A_callV0 C (pc := 5) (A := [.int (M q1 0)]) (rest := []) k_X3_44 ky_X3_clearTo kv_X3_clearTo (m_X3_clearTo l B D Y o hq0 h5) (kO hq0).1 (ent2 hq0) rfl rfl rfl (Nat.le_of_ble_eq_true rfl) ⟨rfl, rfl, Nat.le_of_ble_eq_true rfl, Nat.le_of_ble_eq_true rfl⟩ ⟨Nat.zero_le _, Nat.zero_le _⟩ dX3_becomeTurned_5 ?_
  refine A_iconst C (pc := 8) ic_0 dX3_becomeTurned_8 ?_
  refine A_istore_n C (pc := 9) [(0, .ref (B + q0)), (1, .ref (B + q1)), (2, .int 0)] rfl (by decide) [1, 2, 0] rfl dX3_becomeTurned_9 ?_
  exact w_X3_becomeTurned_L10 C hr hk hq0 hq1 FU _ _  hf
set_option maxRecDepth 100000 in
theorem w_X3_becomeJoined_L70 {q0 : Nat} {q1 : Nat} {q2 : Nat} {x3 : Int32} {x4 : Int32} {r : Mem} (C : Cx p s m args c cX3_becomeJoined 6 RX3 B D Y) (hr : meth.sig.returnType = none) (hk : meth.locks = false) (hq0 : kd q0 = 2) (hq1 : kd q1 = 2) (hq2 : kd q2 = 2) : ∀ (n : Nat) (x5 : Int32) (M : Mem), f_X3_becomeJoined_L70 q0 q1 q2 x3 x4 n (x5, M) = some r → At p l e rm_X3_becomeJoined s m args below meth c 6 0 0 (QQ below args s B D Y r o none) B D Y o 70 M [(0, .ref (B + q0)), (1, .ref (B + q1)), (2, .ref (B + q2)), (3, .int x3), (4, .int x4), (5, .int x5)] [] := by
  intro n
  induction n with
  | zero => intro x5 M hf; exact nomatch (show (none : Option Mem) = some r from hf)
  | succ n hk70 =>
    intro x5 M hf
    replace hf : g_X3_becomeJoined_L70 q0 q1 q2 x3 x4 (f_X3_becomeJoined_L70 q0 q1 q2 x3 x4 n) (x5, M) = some r := hf
    dsimp only [g_X3_becomeJoined_L70] at hf
    refine A_iload C (pc := 70) 5 rfl dX3_becomeJoined_70 ?_
    refine A_aload_n C (pc := 72) 0 rfl dX3_becomeJoined_72 ?_
    refine A_g3_0 C (pc := 73) hq0 kf_X3_22 dX3_becomeJoined_73 ?_
    refine A_icmp_ge C (pc := 76) 135 (by decide) dX3_becomeJoined_76 hf (fun _ hf => ?_) (fun _ hf => ?_)
    · exact R_vM C (pc := 135) hr hk dX3_becomeJoined_135 hf
    · refine A_aload_n C (pc := 79) 0 rfl dX3_becomeJoined_79 ?_
      refine A_g3_1 C (pc := 80) hq0 kf_X3_9 dX3_becomeJoined_80 ?_
      refine A_iload C (pc := 83) 5 rfl dX3_becomeJoined_83 ?_
      refine A_aload_n C (pc := 85) 2 rfl dX3_becomeJoined_85 ?_
      refine A_g3_1 C (pc := 86) hq2 kf_X3_9 dX3_becomeJoined_86 ?_
      refine A_iload C (pc := 89) 5 rfl dX3_becomeJoined_89 ?_
      refine A_iload C (pc := 91) 4 rfl dX3_becomeJoined_91 ?_
      refine A_isub C (pc := 93) dX3_becomeJoined_93 ?_
      obtain ⟨c94, hf⟩ := chk_i hf
      refine A_iald C (pc := 94) (iO1 hq2) c94 dX3_becomeJoined_94 ?_
      refine A_iload C (pc := 95) 4 rfl dX3_becomeJoined_95 ?_
      refine A_ishl C (pc := 97) dX3_becomeJoined_97 ?_
      refine A_iload_n C (pc := 98) 3 rfl dX3_becomeJoined_98 ?_
      refine A_if_eq C (pc := 99) 109 (by decide) dX3_becomeJoined_99 hf (fun _ hf => ?_) (fun _ hf => ?_)
      · refine A_iconst C (pc := 109) ic_0 dX3_becomeJoined_109 ?_
        refine A_ior C (pc := 110) dX3_becomeJoined_110 ?_
        obtain ⟨c111, hf⟩ := chk_i hf
        obtain ⟨M111, e111, hf⟩ := bd_i hf
        refine A_iast C (pc := 111) (iO1 hq0) c111 dX3_becomeJoined_111 ?_
        refine A_nmM e111 ?_
        refine A_aload_n C (pc := 112) 0 rfl dX3_becomeJoined_112 ?_
        refine A_g3_2 C (pc := 113) hq0 kf_X3_15 dX3_becomeJoined_113 ?_
        refine A_iload C (pc := 116) 5 rfl dX3_becomeJoined_116 ?_
        refine A_aload_n C (pc := 118) 2 rfl dX3_becomeJoined_118 ?_
        refine A_g3_2 C (pc := 119) hq2 kf_X3_15 dX3_becomeJoined_119 ?_
        refine A_iload C (pc := 122) 5 rfl dX3_becomeJoined_122 ?_
        refine A_iload C (pc := 124) 4 rfl dX3_becomeJoined_124 ?_
        refine A_isub C (pc := 126) dX3_becomeJoined_126 ?_
        obtain ⟨c127, hf⟩ := chk_i hf
        refine A_iald C (pc := 127) (iO2 hq2) c127 dX3_becomeJoined_127 ?_
        obtain ⟨c128, hf⟩ := chk_i hf
        obtain ⟨M128, e128, hf⟩ := bd_i hf
        refine A_iast C (pc := 128) (iO2 hq0) c128 dX3_becomeJoined_128 ?_
        refine A_nmM e128 ?_
        refine A_iinc C (pc := 129) (k0 := 5) [(0, .ref (B + q0)), (1, .ref (B + q1)), (2, .ref (B + q2)), (3, .int x3), (4, .int x4), (5, .int (x5 + 1))] rfl ic_1 (by decide) [1, 2, 3, 4, 5, 0] rfl dX3_becomeJoined_129 ?_
        refine A_goto C (pc := 132) 70 (by decide) dX3_becomeJoined_132 ?_
        exact hk70 _ _ hf
      · refine A_aload_n C (pc := 102) 1 rfl dX3_becomeJoined_102 ?_
        obtain ⟨z103, h103, hf⟩ := bd_i hf
        refine A_callV1 C (pc := 103) (A := []) (rest := [.int ((M (q2 + 1) (x5 - x4).toNatClampNeg) <<< (x4 &&& 31)), .int x5, .ref (B + (q0 + 1))]) k_X3_57 ky_X3_all kv_X3_all (m_X3_all l B D Y o hq1 h103) (kO hq1).1 (ent2 hq1) rfl rfl rfl (Nat.le_of_ble_eq_true rfl) ⟨rfl, rfl, Nat.le_of_ble_eq_true rfl, Nat.le_of_ble_eq_true rfl⟩ ⟨Nat.zero_le _, Nat.zero_le _⟩ dX3_becomeJoined_103 ?_
        refine A_goto C (pc := 106) 110 (by decide) dX3_becomeJoined_106 ?_
        refine A_ior C (pc := 110) dX3_becomeJoined_110 ?_
        obtain ⟨c111, hf⟩ := chk_i hf
        obtain ⟨M111, e111, hf⟩ := bd_i hf
        refine A_iast C (pc := 111) (iO1 hq0) c111 dX3_becomeJoined_111 ?_
        refine A_nmM e111 ?_
        refine A_aload_n C (pc := 112) 0 rfl dX3_becomeJoined_112 ?_
        refine A_g3_2 C (pc := 113) hq0 kf_X3_15 dX3_becomeJoined_113 ?_
        refine A_iload C (pc := 116) 5 rfl dX3_becomeJoined_116 ?_
        refine A_aload_n C (pc := 118) 2 rfl dX3_becomeJoined_118 ?_
        refine A_g3_2 C (pc := 119) hq2 kf_X3_15 dX3_becomeJoined_119 ?_
        refine A_iload C (pc := 122) 5 rfl dX3_becomeJoined_122 ?_
        refine A_iload C (pc := 124) 4 rfl dX3_becomeJoined_124 ?_
        refine A_isub C (pc := 126) dX3_becomeJoined_126 ?_
        obtain ⟨c127, hf⟩ := chk_i hf
        refine A_iald C (pc := 127) (iO2 hq2) c127 dX3_becomeJoined_127 ?_
        obtain ⟨c128, hf⟩ := chk_i hf
        obtain ⟨M128, e128, hf⟩ := bd_i hf
        refine A_iast C (pc := 128) (iO2 hq0) c128 dX3_becomeJoined_128 ?_
        refine A_nmM e128 ?_
        refine A_iinc C (pc := 129) (k0 := 5) [(0, .ref (B + q0)), (1, .ref (B + q1)), (2, .ref (B + q2)), (3, .int x3), (4, .int x4), (5, .int (x5 + 1))] rfl ic_1 (by decide) [1, 2, 3, 4, 5, 0] rfl dX3_becomeJoined_129 ?_
        refine A_goto C (pc := 132) 70 (by decide) dX3_becomeJoined_132 ?_
        exact hk70 _ _ hf
set_option maxRecDepth 100000 in
theorem w_X3_becomeJoined_L25 {q0 : Nat} {q1 : Nat} {q2 : Nat} {x3 : Int32} {x4 : Int32} {r : Mem} (C : Cx p s m args c cX3_becomeJoined 6 RX3 B D Y) (hr : meth.sig.returnType = none) (hk : meth.locks = false) (hq0 : kd q0 = 2) (hq1 : kd q1 = 2) (hq2 : kd q2 = 2) : ∀ (n : Nat) (x5 : Int32) (M : Mem), f_X3_becomeJoined_L25 q0 q1 q2 x3 x4 n (x5, M) = some r → At p l e rm_X3_becomeJoined s m args below meth c 6 0 0 (QQ below args s B D Y r o none) B D Y o 25 M [(0, .ref (B + q0)), (1, .ref (B + q1)), (2, .ref (B + q2)), (3, .int x3), (4, .int x4), (5, .int x5)] [] := by
  intro n
  induction n with
  | zero => intro x5 M hf; exact nomatch (show (none : Option Mem) = some r from hf)
  | succ n hk25 =>
    intro x5 M hf
    replace hf : g_X3_becomeJoined_L25 q0 q1 q2 x3 x4 (f_X3_becomeJoined_L25 q0 q1 q2 x3 x4 n) (x5, M) = some r := hf
    dsimp only [g_X3_becomeJoined_L25] at hf
    refine A_iload C (pc := 25) 5 rfl dX3_becomeJoined_25 ?_
    refine A_iload C (pc := 27) 4 rfl dX3_becomeJoined_27 ?_
    refine A_icmp_ge C (pc := 29) 66 (by decide) dX3_becomeJoined_29 hf (fun _ hf => ?_) (fun _ hf => ?_)
    · refine A_iload C (pc := 66) 4 rfl dX3_becomeJoined_66 ?_
      refine A_istore C (pc := 68) [(0, .ref (B + q0)), (1, .ref (B + q1)), (2, .ref (B + q2)), (3, .int x3), (4, .int x4), (5, .int x4)] (by decide) [1, 2, 3, 4, 5, 0] rfl dX3_becomeJoined_68 ?_
      exact w_X3_becomeJoined_L70 C hr hk hq0 hq1 hq2 FU _ _  hf
    · refine A_aload_n C (pc := 32) 0 rfl dX3_becomeJoined_32 ?_
      refine A_g3_1 C (pc := 33) hq0 kf_X3_9 dX3_becomeJoined_33 ?_
      refine A_iload C (pc := 36) 5 rfl dX3_becomeJoined_36 ?_
      refine A_aload_n C (pc := 38) 1 rfl dX3_becomeJoined_38 ?_
      refine A_g3_1 C (pc := 39) hq1 kf_X3_9 dX3_becomeJoined_39 ?_
      refine A_iload C (pc := 42) 5 rfl dX3_becomeJoined_42 ?_
      obtain ⟨c44, hf⟩ := chk_i hf
      refine A_iald C (pc := 44) (iO1 hq1) c44 dX3_becomeJoined_44 ?_
      obtain ⟨c45, hf⟩ := chk_i hf
      obtain ⟨M45, e45, hf⟩ := bd_i hf
      refine A_iast C (pc := 45) (iO1 hq0) c45 dX3_becomeJoined_45 ?_
      refine A_nmM e45 ?_
      refine A_aload_n C (pc := 46) 0 rfl dX3_becomeJoined_46 ?_
      refine A_g3_2 C (pc := 47) hq0 kf_X3_15 dX3_becomeJoined_47 ?_
      refine A_iload C (pc := 50) 5 rfl dX3_becomeJoined_50 ?_
      refine A_aload_n C (pc := 52) 1 rfl dX3_becomeJoined_52 ?_
      refine A_g3_2 C (pc := 53) hq1 kf_X3_15 dX3_becomeJoined_53 ?_
      refine A_iload C (pc := 56) 5 rfl dX3_becomeJoined_56 ?_
      obtain ⟨c58, hf⟩ := chk_i hf
      refine A_iald C (pc := 58) (iO2 hq1) c58 dX3_becomeJoined_58 ?_
      obtain ⟨c59, hf⟩ := chk_i hf
      obtain ⟨M59, e59, hf⟩ := bd_i hf
      refine A_iast C (pc := 59) (iO2 hq0) c59 dX3_becomeJoined_59 ?_
      refine A_nmM e59 ?_
      refine A_iinc C (pc := 60) (k0 := 5) [(0, .ref (B + q0)), (1, .ref (B + q1)), (2, .ref (B + q2)), (3, .int x3), (4, .int x4), (5, .int (x5 + 1))] rfl ic_1 (by decide) [1, 2, 3, 4, 5, 0] rfl dX3_becomeJoined_60 ?_
      refine A_goto C (pc := 63) 25 (by decide) dX3_becomeJoined_63 ?_
      exact hk25 _ _ hf
set_option maxRecDepth 100000 in
theorem m_X3_becomeJoined (l : Launch) (B : Nat) (D : va_G) (Y : Nat → ClassId) (o : Ou) {M : Mem} {q0 : Nat} {q1 : Nat} {q2 : Nat} {x3 : Int32} {r : Mem} (hq0 : kd q0 = 2) (hq1 : kd q1 = 2) (hq2 : kd q2 = 2) (hf : f_X3_becomeJoined M q0 q1 q2 x3 = some r) : MW l yX3_becomeJoined cX3_becomeJoined 6 none rm_X3_becomeJoined B D Y o [.ref (B + q0), .ref (B + q1), .ref (B + q2), .int x3] M r none := by
  refine ofAt (L0 := [(0, .ref (B + q0)), (1, .ref (B + q1)), (2, .ref (B + q2)), (3, .int x3)]) (by decide +kernel) (Nat.le_of_ble_eq_true rfl) rfl (fun p e s m args below meth c C hr hk => ?_)
  dsimp only [f_X3_becomeJoined] at hf
  refine A_aload_n C (pc := 0) 1 rfl dX3_becomeJoined_0 ?_
  refine A_g3_0 C (pc := 1) hq1 kf_X3_22 dX3_becomeJoined_1 ?_
  obtain ⟨v4, e4, hf⟩ := bd_i hf
  refine A_nmI e4 ?_
  refine A_istore C (pc := 4) [(0, .ref (B + q0)), (1, .ref (B + q1)), (2, .ref (B + q2)), (3, .int x3), (4, .int v4)] (by decide) [1, 2, 3, 4, 0] rfl dX3_becomeJoined_4 ?_
  refine A_aload_n C (pc := 6) 0 rfl dX3_becomeJoined_6 ?_
  refine A_bipush C (pc := 7) bc_9 dX3_becomeJoined_7 ?_
  refine A_iload C (pc := 9) 4 rfl dX3_becomeJoined_9 ?_
  refine A_aload_n C (pc := 11) 2 rfl dX3_becomeJoined_11 ?_
  refine A_g3_0 C (pc := 12) hq2 kf_X3_22 dX3_becomeJoined_12 ?_
  refine A_iadd C (pc := 15) dX3_becomeJoined_15 ?_
  refine A_mmin C (pc := 16) km_X3_52 kmc_min kms_min km_ini (Nat.le_of_ble_eq_true rfl) (Nat.le_of_ble_eq_true rfl) ⟨Nat.zero_le _, Nat.zero_le _⟩ dX3_becomeJoined_16 ?_
  obtain ⟨z19, h19, hf⟩ := bd_i hf
  refine A_callV0 C (pc := 19) (A := [.int (jmin 9 (v4 + (M q2 0)))]) (rest := []) k_X3_44 ky_X3_clearTo kv_X3_clearTo (m_X3_clearTo l B D Y o hq0 h19) (kO hq0).1 (ent2 hq0) rfl rfl rfl (Nat.le_of_ble_eq_true rfl) ⟨rfl, rfl, Nat.le_of_ble_eq_true rfl, Nat.le_of_ble_eq_true rfl⟩ ⟨Nat.zero_le _, Nat.zero_le _⟩ dX3_becomeJoined_19 ?_
  refine A_iconst C (pc := 22) ic_0 dX3_becomeJoined_22 ?_
  refine A_istore C (pc := 23) [(0, .ref (B + q0)), (1, .ref (B + q1)), (2, .ref (B + q2)), (3, .int x3), (4, .int v4), (5, .int 0)] (by decide) [1, 2, 3, 4, 5, 0] rfl dX3_becomeJoined_23 ?_
  exact w_X3_becomeJoined_L25 C hr hk hq0 hq1 hq2 FU _ _  hf
set_option maxRecDepth 100000 in
theorem w_X3_becomeCommon_L7 {q0 : Nat} {q2 : Nat} {r : Mem} (C : Cx p s m args c cX3_becomeCommon 4 RX3 B D Y) (hr : meth.sig.returnType = none) (hk : meth.locks = false) (hq0 : kd q0 = 2) (hq2 : kd q2 = 2) : ∀ (n : Nat) (x3 : Int32) (M : Mem), f_X3_becomeCommon_L7 q0 q2 n (x3, M) = some r → At p l e rm_X3_becomeCommon s m args below meth c 4 0 0 (QQ below args s B D Y r o none) B D Y o 7 M [(0, .ref (B + q0)), (2, .ref (B + q2)), (3, .int x3)] [] := by
  intro n
  induction n with
  | zero => intro x3 M hf; exact nomatch (show (none : Option Mem) = some r from hf)
  | succ n hk7 =>
    intro x3 M hf
    replace hf : g_X3_becomeCommon_L7 q0 q2 (f_X3_becomeCommon_L7 q0 q2 n) (x3, M) = some r := hf
    dsimp only [g_X3_becomeCommon_L7] at hf
    refine A_iload_n C (pc := 7) 2 rfl dX3_becomeCommon_7 ?_
    refine A_aload_n C (pc := 8) 0 rfl dX3_becomeCommon_8 ?_
    refine A_g3_0 C (pc := 9) hq0 kf_X3_22 dX3_becomeCommon_9 ?_
    refine A_icmp_ge C (pc := 12) 36 (by decide) dX3_becomeCommon_12 hf (fun _ hf => ?_) (fun _ hf => ?_)
    · exact R_vM C (pc := 36) hr hk dX3_becomeCommon_36 hf
    · refine A_aload_n C (pc := 15) 0 rfl dX3_becomeCommon_15 ?_
      refine A_g3_1 C (pc := 16) hq0 kf_X3_9 dX3_becomeCommon_16 ?_
      refine A_iload_n C (pc := 19) 2 rfl dX3_becomeCommon_19 ?_
      refine A_dup2 C (pc := 20) rfl rfl dX3_becomeCommon_20 ?_
      obtain ⟨c21, hf⟩ := chk_i hf
      refine A_iald C (pc := 21) (iO1 hq0) c21 dX3_becomeCommon_21 ?_
      refine A_aload_n C (pc := 22) 1 rfl dX3_becomeCommon_22 ?_
      refine A_g3_1 C (pc := 23) hq2 kf_X3_9 dX3_becomeCommon_23 ?_
      refine A_iload_n C (pc := 26) 2 rfl dX3_becomeCommon_26 ?_
      obtain ⟨c27, hf⟩ := chk_i hf
      refine A_iald C (pc := 27) (iO1 hq2) c27 dX3_becomeCommon_27 ?_
      refine A_iand C (pc := 28) dX3_becomeCommon_28 ?_
      obtain ⟨c29, hf⟩ := chk_i hf
      obtain ⟨M29, e29, hf⟩ := bd_i hf
      refine A_iast C (pc := 29) (iO1 hq0) c29 dX3_becomeCommon_29 ?_
      refine A_nmM e29 ?_
      refine A_iinc C (pc := 30) (k0 := 2) [(0, .ref (B + q0)), (2, .ref (B + q2)), (3, .int (x3 + 1))] rfl ic_1 (by decide) [1, 2, 0] rfl dX3_becomeCommon_30 ?_
      refine A_goto C (pc := 33) 7 (by decide) dX3_becomeCommon_33 ?_
      exact hk7 _ _ hf
set_option maxRecDepth 100000 in
theorem m_X3_becomeCommon (l : Launch) (B : Nat) (D : va_G) (Y : Nat → ClassId) (o : Ou) {M : Mem} {q0 : Nat} {q1 : Nat} {q2 : Nat} {r : Mem} (hq0 : kd q0 = 2) (hq1 : kd q1 = 2) (hq2 : kd q2 = 2) (hf : f_X3_becomeCommon M q0 q1 q2 = some r) : MW l yX3_becomeCommon cX3_becomeCommon 4 none rm_X3_becomeCommon B D Y o [.ref (B + q0), .ref (B + q1), .ref (B + q2)] M r none := by
  refine ofAt (L0 := [(0, .ref (B + q0)), (1, .ref (B + q1)), (2, .ref (B + q2))]) (by decide +kernel) (Nat.le_of_ble_eq_true rfl) rfl (fun p e s m args below meth c C hr hk => ?_)
  dsimp only [f_X3_becomeCommon] at hf
  refine A_aload_n C (pc := 0) 0 rfl dX3_becomeCommon_0 ?_
  refine A_aload_n C (pc := 1) 1 rfl dX3_becomeCommon_1 ?_
  obtain ⟨z2, h2, hf⟩ := bd_i hf
  refine A_callV0 C (pc := 2) (A := [.ref (B + q1)]) (rest := []) k_X3_60 ky_X3_become kv_X3_become (m_X3_become l B D Y o hq0 hq1 h2) (kO hq0).1 (ent2 hq0) rfl rfl rfl (Nat.le_of_ble_eq_true rfl) ⟨rfl, rfl, Nat.le_of_ble_eq_true rfl, Nat.le_of_ble_eq_true rfl⟩ ⟨Nat.zero_le _, Nat.zero_le _⟩ dX3_becomeCommon_2 ?_
  refine A_iconst C (pc := 5) ic_0 dX3_becomeCommon_5 ?_
  refine A_istore_n C (pc := 6) [(0, .ref (B + q0)), (2, .ref (B + q2)), (3, .int 0)] rfl (by decide) [1, 3, 0] rfl dX3_becomeCommon_6 ?_
  exact w_X3_becomeCommon_L7 C hr hk hq0 hq2 FU _ _  hf
set_option maxRecDepth 100000 in
theorem m_X3_isNextBelow (l : Launch) (B : Nat) (D : va_G) (Y : Nat → ClassId) (o : Ou) {M : Mem} {q0 : Nat} {x1 : Int32} {x2 : Int32} {r : Int32} (hq0 : kd q0 = 2) (hf : f_X3_isNextBelow M q0 x1 x2 = some r) : MW l yX3_isNextBelow cX3_isNextBelow 3 (some .boolean) rm_X3_isNextBelow B D Y o [.ref (B + q0), .int x1, .int x2] M M (some (.int r)) := by
  refine ofAt (L0 := [(0, .ref (B + q0)), (1, .int x1), (2, .int x2)]) (by decide +kernel) (Nat.le_of_ble_eq_true rfl) rfl (fun p e s m args below meth c C hr hk => ?_)
  dsimp only [f_X3_isNextBelow] at hf
  refine A_aload_n C (pc := 0) 0 rfl dX3_isNextBelow_0 ?_
  refine A_iload_n C (pc := 1) 1 rfl dX3_isNextBelow_1 ?_
  refine A_iload_n C (pc := 2) 2 rfl dX3_isNextBelow_2 ?_
  obtain ⟨z3, h3, hf⟩ := bd_i hf
  refine A_callV1 C (pc := 3) (A := [.int x1, .int x2]) (rest := []) k_X3_38 ky_X3_isBelow kv_X3_isBelow (m_X3_isBelow l B D Y o hq0 h3) (kO hq0).1 (ent2 hq0) rfl rfl rfl (Nat.le_of_ble_eq_true rfl) ⟨rfl, rfl, Nat.le_of_ble_eq_true rfl, Nat.le_of_ble_eq_true rfl⟩ ⟨Nat.zero_le _, Nat.zero_le _⟩ dX3_isNextBelow_3 ?_
  refine A_if_eq C (pc := 6) 28 (by decide) dX3_isNextBelow_6 hf (fun _ hf => ?_) (fun _ hf => ?_)
  · refine A_iconst C (pc := 28) ic_0 dX3_isNextBelow_28 ?_
    exact R_iP C (pc := 29) hr hk nz_0 dX3_isNextBelow_29 hf
  · refine A_aload_n C (pc := 9) 0 rfl dX3_isNextBelow_9 ?_
    refine A_iload_n C (pc := 10) 1 rfl dX3_isNextBelow_10 ?_
    obtain ⟨z11, h11, hf⟩ := bd_i hf
    refine A_callV1 C (pc := 11) (A := [.int x1]) (rest := []) k_X3_48 ky_X3_aboveOf kv_X3_aboveOf (m_X3_aboveOf l B D Y o hq0 h11) (kO hq0).1 (ent2 hq0) rfl rfl rfl (Nat.le_of_ble_eq_true rfl) ⟨rfl, rfl, Nat.le_of_ble_eq_true rfl, Nat.le_of_ble_eq_true rfl⟩ ⟨Nat.zero_le _, Nat.zero_le _⟩ dX3_isNextBelow_11 ?_
    refine A_aload_n C (pc := 14) 0 rfl dX3_isNextBelow_14 ?_
    refine A_g3_1 C (pc := 15) hq0 kf_X3_9 dX3_isNextBelow_15 ?_
    refine A_iload_n C (pc := 18) 2 rfl dX3_isNextBelow_18 ?_
    obtain ⟨c19, hf⟩ := chk_i hf
    refine A_iald C (pc := 19) (iO1 hq0) c19 dX3_isNextBelow_19 ?_
    refine A_iand C (pc := 20) dX3_isNextBelow_20 ?_
    refine A_if_ne C (pc := 21) 28 (by decide) dX3_isNextBelow_21 hf (fun _ hf => ?_) (fun _ hf => ?_)
    · refine A_iconst C (pc := 28) ic_0 dX3_isNextBelow_28 ?_
      exact R_iP C (pc := 29) hr hk nz_0 dX3_isNextBelow_29 hf
    · refine A_iconst C (pc := 24) ic_1 dX3_isNextBelow_24 ?_
      refine A_goto C (pc := 25) 29 (by decide) dX3_isNextBelow_25 ?_
      exact R_iP C (pc := 29) hr hk nz_1 dX3_isNextBelow_29 hf
set_option maxRecDepth 100000 in
theorem w_X3_allBelow_L4 {M : Mem} {q0 : Nat} {x1 : Int32} {r : Int32} (C : Cx p s m args c cX3_allBelow 4 RX3 B D Y) (hr : meth.sig.returnType = (some .int)) (hk : meth.locks = false) (hq0 : kd q0 = 2) : ∀ (n : Nat) (x2 : Int32) (x3 : Int32), f_X3_allBelow_L4 M q0 x1 n (x2, x3) = some r → At p l e rm_X3_allBelow s m args below meth c 4 0 0 (QQ below args s B D Y M o (some (.int r))) B D Y o 4 M [(0, .ref (B + q0)), (1, .int x1), (2, .int x2), (3, .int x3)] [] := by
  intro n
  induction n with
  | zero => intro x2 x3 hf; exact nomatch (show (none : Option Int32) = some r from hf)
  | succ n hk4 =>
    intro x2 x3 hf
    replace hf : g_X3_allBelow_L4 M q0 x1 (f_X3_allBelow_L4 M q0 x1 n) (x2, x3) = some r := hf
    dsimp only [g_X3_allBelow_L4] at hf
    refine A_iload_n C (pc := 4) 3 rfl dX3_allBelow_4 ?_
    refine A_aload_n C (pc := 5) 0 rfl dX3_allBelow_5 ?_
    refine A_g3_0 C (pc := 6) hq0 kf_X3_22 dX3_allBelow_6 ?_
    refine A_icmp_ge C (pc := 9) 35 (by decide) dX3_allBelow_9 hf (fun _ hf => ?_) (fun _ hf => ?_)
    · refine A_iload_n C (pc := 35) 2 rfl dX3_allBelow_35 ?_
      exact R_iP C (pc := 36) hr hk rfl dX3_allBelow_36 hf
    · refine A_iload_n C (pc := 12) 1 rfl dX3_allBelow_12 ?_
      refine A_iload_n C (pc := 13) 3 rfl dX3_allBelow_13 ?_
      obtain ⟨z14, h14, hf⟩ := bd_i hf
      refine A_callS1 C (pc := 14) (A := [.int x1, .int x3]) (rest := []) k_X3_30 ky_X6_has ks_X6_has (m_X6_has l B D Y o  h14) rfl rfl (Nat.le_of_ble_eq_true rfl) ⟨rfl, rfl, Nat.le_of_ble_eq_true rfl, Nat.le_of_ble_eq_true rfl⟩ ⟨Nat.zero_le _, Nat.zero_le _⟩ dX3_allBelow_14 ?_
      refine A_if_eq C (pc := 17) 29 (by decide) dX3_allBelow_17 hf (fun _ hf => ?_) (fun _ hf => ?_)
      · refine A_iinc C (pc := 29) (k0 := 3) [(0, .ref (B + q0)), (1, .int x1), (2, .int x2), (3, .int (x3 + 1))] rfl ic_1 (by decide) [1, 2, 3, 0] rfl dX3_allBelow_29 ?_
        refine A_goto C (pc := 32) 4 (by decide) dX3_allBelow_32 ?_
        exact hk4 _ _ hf
      · refine A_iload_n C (pc := 20) 2 rfl dX3_allBelow_20 ?_
        refine A_aload_n C (pc := 21) 0 rfl dX3_allBelow_21 ?_
        refine A_g3_1 C (pc := 22) hq0 kf_X3_9 dX3_allBelow_22 ?_
        refine A_iload_n C (pc := 25) 3 rfl dX3_allBelow_25 ?_
        obtain ⟨c26, hf⟩ := chk_i hf
        refine A_iald C (pc := 26) (iO1 hq0) c26 dX3_allBelow_26 ?_
        refine A_ior C (pc := 27) dX3_allBelow_27 ?_
        obtain ⟨v28, e28, hf⟩ := bd_i hf
        refine A_nmI e28 ?_
        refine A_istore_n C (pc := 28) [(0, .ref (B + q0)), (1, .int x1), (2, .int v28), (3, .int x3)] rfl (by decide) [1, 2, 0, 3] rfl dX3_allBelow_28 ?_
        refine A_iinc C (pc := 29) (k0 := 3) [(0, .ref (B + q0)), (1, .int x1), (2, .int v28), (3, .int (x3 + 1))] rfl ic_1 (by decide) [1, 2, 3, 0] rfl dX3_allBelow_29 ?_
        refine A_goto C (pc := 32) 4 (by decide) dX3_allBelow_32 ?_
        exact hk4 _ _ hf
set_option maxRecDepth 100000 in
theorem m_X3_allBelow (l : Launch) (B : Nat) (D : va_G) (Y : Nat → ClassId) (o : Ou) {M : Mem} {q0 : Nat} {x1 : Int32} {r : Int32} (hq0 : kd q0 = 2) (hf : f_X3_allBelow M q0 x1 = some r) : MW l yX3_allBelow cX3_allBelow 4 (some .int) rm_X3_allBelow B D Y o [.ref (B + q0), .int x1] M M (some (.int r)) := by
  refine ofAt (L0 := [(0, .ref (B + q0)), (1, .int x1)]) (by decide +kernel) (Nat.le_of_ble_eq_true rfl) rfl (fun p e s m args below meth c C hr hk => ?_)
  dsimp only [f_X3_allBelow] at hf
  refine A_iconst C (pc := 0) ic_0 dX3_allBelow_0 ?_
  refine A_istore_n C (pc := 1) [(0, .ref (B + q0)), (1, .int x1), (2, .int 0)] rfl (by decide) [1, 2, 0] rfl dX3_allBelow_1 ?_
  refine A_iconst C (pc := 2) ic_0 dX3_allBelow_2 ?_
  refine A_istore_n C (pc := 3) [(0, .ref (B + q0)), (1, .int x1), (2, .int 0), (3, .int 0)] rfl (by decide) [1, 2, 3, 0] rfl dX3_allBelow_3 ?_
  exact w_X3_allBelow_L4 C hr hk hq0 FU _ _  hf
set_option maxRecDepth 100000 in
theorem m_X3_greatestOf (l : Launch) (B : Nat) (D : va_G) (Y : Nat → ClassId) (o : Ou) {M : Mem} {q0 : Nat} {x1 : Int32} {r : Int32} (hq0 : kd q0 = 2) (hf : f_X3_greatestOf M q0 x1 = some r) : MW l yX3_greatestOf cX3_greatestOf 2 (some .int) rm_X3_greatestOf B D Y o [.ref (B + q0), .int x1] M M (some (.int r)) := by
  refine ofAt (L0 := [(0, .ref (B + q0)), (1, .int x1)]) (by decide +kernel) (Nat.le_of_ble_eq_true rfl) rfl (fun p e s m args below meth c C hr hk => ?_)
  dsimp only [f_X3_greatestOf] at hf
  refine A_iload_n C (pc := 0) 1 rfl dX3_greatestOf_0 ?_
  refine A_aload_n C (pc := 1) 0 rfl dX3_greatestOf_1 ?_
  refine A_iload_n C (pc := 2) 1 rfl dX3_greatestOf_2 ?_
  obtain ⟨z3, h3, hf⟩ := bd_i hf
  refine A_callV1 C (pc := 3) (A := [.int x1]) (rest := [.int x1]) k_X3_72 ky_X3_allBelow kv_X3_allBelow (m_X3_allBelow l B D Y o hq0 h3) (kO hq0).1 (ent2 hq0) rfl rfl rfl (Nat.le_of_ble_eq_true rfl) ⟨rfl, rfl, Nat.le_of_ble_eq_true rfl, Nat.le_of_ble_eq_true rfl⟩ ⟨Nat.zero_le _, Nat.zero_le _⟩ dX3_greatestOf_3 ?_
  refine A_iconst C (pc := 6) ic_m1 dX3_greatestOf_6 ?_
  refine A_ixor C (pc := 7) dX3_greatestOf_7 ?_
  refine A_iand C (pc := 8) dX3_greatestOf_8 ?_
  exact R_iP C (pc := 9) hr hk rfl dX3_greatestOf_9 hf
set_option maxRecDepth 100000 in
theorem w_X3_nextCount_L4 {M : Mem} {q0 : Nat} {r : Int32} (C : Cx p s m args c cX3_nextCount 3 RX3 B D Y) (hr : meth.sig.returnType = (some .int)) (hk : meth.locks = false) (hq0 : kd q0 = 2) : ∀ (n : Nat) (x1 : Int32) (x2 : Int32), f_X3_nextCount_L4 M q0 n (x1, x2) = some r → At p l e rm_X3_nextCount s m args below meth c 3 0 0 (QQ below args s B D Y M o (some (.int r))) B D Y o 4 M [(0, .ref (B + q0)), (1, .int x1), (2, .int x2)] [] := by
  intro n
  induction n with
  | zero => intro x1 x2 hf; exact nomatch (show (none : Option Int32) = some r from hf)
  | succ n hk4 =>
    intro x1 x2 hf
    replace hf : g_X3_nextCount_L4 M q0 (f_X3_nextCount_L4 M q0 n) (x1, x2) = some r := hf
    dsimp only [g_X3_nextCount_L4] at hf
    refine A_iload_n C (pc := 4) 2 rfl dX3_nextCount_4 ?_
    refine A_aload_n C (pc := 5) 0 rfl dX3_nextCount_5 ?_
    refine A_g3_0 C (pc := 6) hq0 kf_X3_22 dX3_nextCount_6 ?_
    refine A_icmp_ge C (pc := 9) 34 (by decide) dX3_nextCount_9 hf (fun _ hf => ?_) (fun _ hf => ?_)
    · refine A_iload_n C (pc := 34) 1 rfl dX3_nextCount_34 ?_
      exact R_iP C (pc := 35) hr hk rfl dX3_nextCount_35 hf
    · refine A_iload_n C (pc := 12) 1 rfl dX3_nextCount_12 ?_
      refine A_aload_n C (pc := 13) 0 rfl dX3_nextCount_13 ?_
      refine A_aload_n C (pc := 14) 0 rfl dX3_nextCount_14 ?_
      refine A_g3_1 C (pc := 15) hq0 kf_X3_9 dX3_nextCount_15 ?_
      refine A_iload_n C (pc := 18) 2 rfl dX3_nextCount_18 ?_
      obtain ⟨c19, hf⟩ := chk_i hf
      refine A_iald C (pc := 19) (iO1 hq0) c19 dX3_nextCount_19 ?_
      obtain ⟨z20, h20, hf⟩ := bd_i hf
      refine A_callV1 C (pc := 20) (A := [.int (M (q0 + 1) x2.toNatClampNeg)]) (rest := [.int x1]) k_X3_69 ky_X3_greatestOf kv_X3_greatestOf (m_X3_greatestOf l B D Y o hq0 h20) (kO hq0).1 (ent2 hq0) rfl rfl rfl (Nat.le_of_ble_eq_true rfl) ⟨rfl, rfl, Nat.le_of_ble_eq_true rfl, Nat.le_of_ble_eq_true rfl⟩ ⟨Nat.zero_le _, Nat.zero_le _⟩ dX3_nextCount_20 ?_
      obtain ⟨z23, h23, hf⟩ := bd_i hf
      refine A_callS1 C (pc := 23) (A := [.int z20]) (rest := [.int x1]) k_X3_64 ky_J6_bitCount_0f7a4 ks_J6_bitCount_0f7a4 (m_J6_bitCount_0f7a4 l B D Y o  h23) rfl rfl (Nat.le_of_ble_eq_true rfl) ⟨rfl, rfl, Nat.le_of_ble_eq_true rfl, Nat.le_of_ble_eq_true rfl⟩ ⟨Nat.zero_le _, Nat.zero_le _⟩ dX3_nextCount_23 ?_
      refine A_iadd C (pc := 26) dX3_nextCount_26 ?_
      obtain ⟨v27, e27, hf⟩ := bd_i hf
      refine A_nmI e27 ?_
      refine A_istore_n C (pc := 27) [(0, .ref (B + q0)), (1, .int v27), (2, .int x2)] rfl (by decide) [1, 0, 2] rfl dX3_nextCount_27 ?_
      refine A_iinc C (pc := 28) (k0 := 2) [(0, .ref (B + q0)), (1, .int v27), (2, .int (x2 + 1))] rfl ic_1 (by decide) [1, 2, 0] rfl dX3_nextCount_28 ?_
      refine A_goto C (pc := 31) 4 (by decide) dX3_nextCount_31 ?_
      exact hk4 _ _ hf
set_option maxRecDepth 100000 in
theorem m_X3_nextCount (l : Launch) (B : Nat) (D : va_G) (Y : Nat → ClassId) (o : Ou) {M : Mem} {q0 : Nat} {r : Int32} (hq0 : kd q0 = 2) (hf : f_X3_nextCount M q0 = some r) : MW l yX3_nextCount cX3_nextCount 3 (some .int) rm_X3_nextCount B D Y o [.ref (B + q0)] M M (some (.int r)) := by
  refine ofAt (L0 := [(0, .ref (B + q0))]) (by decide +kernel) (Nat.le_of_ble_eq_true rfl) rfl (fun p e s m args below meth c C hr hk => ?_)
  dsimp only [f_X3_nextCount] at hf
  refine A_iconst C (pc := 0) ic_0 dX3_nextCount_0 ?_
  refine A_istore_n C (pc := 1) [(0, .ref (B + q0)), (1, .int 0)] rfl (by decide) [1, 0] rfl dX3_nextCount_1 ?_
  refine A_iconst C (pc := 2) ic_0 dX3_nextCount_2 ?_
  refine A_istore_n C (pc := 3) [(0, .ref (B + q0)), (1, .int 0), (2, .int 0)] rfl (by decide) [1, 2, 0] rfl dX3_nextCount_3 ?_
  exact w_X3_nextCount_L4 C hr hk hq0 FU _ _  hf
set_option maxRecDepth 100000 in
theorem w_X3_hasPairsOf_L15 {M : Mem} {q0 : Nat} {q1 : Nat} {r : Int32} (C : Cx p s m args c cX3_hasPairsOf 3 RX3 B D Y) (hr : meth.sig.returnType = (some .boolean)) (hk : meth.locks = false) (hq0 : kd q0 = 2) (hq1 : kd q1 = 2) : ∀ (n : Nat) (x2 : Int32), f_X3_hasPairsOf_L15 M q0 q1 n x2 = some r → At p l e rm_X3_hasPairsOf s m args below meth c 3 0 0 (QQ below args s B D Y M o (some (.int r))) B D Y o 15 M [(0, .ref (B + q0)), (1, .ref (B + q1)), (2, .int x2)] [] := by
  intro n
  induction n with
  | zero => intro x2 hf; exact nomatch (show (none : Option Int32) = some r from hf)
  | succ n hk15 =>
    intro x2 hf
    replace hf : g_X3_hasPairsOf_L15 M q0 q1 (f_X3_hasPairsOf_L15 M q0 q1 n) x2 = some r := hf
    dsimp only [g_X3_hasPairsOf_L15] at hf
    refine A_iload_n C (pc := 15) 2 rfl dX3_hasPairsOf_15 ?_
    refine A_aload_n C (pc := 16) 0 rfl dX3_hasPairsOf_16 ?_
    refine A_g3_0 C (pc := 17) hq0 kf_X3_22 dX3_hasPairsOf_17 ?_
    refine A_icmp_ge C (pc := 20) 46 (by decide) dX3_hasPairsOf_20 hf (fun _ hf => ?_) (fun _ hf => ?_)
    · refine A_iconst C (pc := 46) ic_1 dX3_hasPairsOf_46 ?_
      exact R_iP C (pc := 47) hr hk nz_1 dX3_hasPairsOf_47 hf
    · refine A_aload_n C (pc := 23) 0 rfl dX3_hasPairsOf_23 ?_
      refine A_g3_1 C (pc := 24) hq0 kf_X3_9 dX3_hasPairsOf_24 ?_
      refine A_iload_n C (pc := 27) 2 rfl dX3_hasPairsOf_27 ?_
      obtain ⟨c28, hf⟩ := chk_i hf
      refine A_iald C (pc := 28) (iO1 hq0) c28 dX3_hasPairsOf_28 ?_
      refine A_aload_n C (pc := 29) 1 rfl dX3_hasPairsOf_29 ?_
      refine A_g3_1 C (pc := 30) hq1 kf_X3_9 dX3_hasPairsOf_30 ?_
      refine A_iload_n C (pc := 33) 2 rfl dX3_hasPairsOf_33 ?_
      obtain ⟨c34, hf⟩ := chk_i hf
      refine A_iald C (pc := 34) (iO1 hq1) c34 dX3_hasPairsOf_34 ?_
      refine A_icmp_eq C (pc := 35) 40 (by decide) dX3_hasPairsOf_35 hf (fun _ hf => ?_) (fun _ hf => ?_)
      · refine A_iinc C (pc := 40) (k0 := 2) [(0, .ref (B + q0)), (1, .ref (B + q1)), (2, .int (x2 + 1))] rfl ic_1 (by decide) [1, 2, 0] rfl dX3_hasPairsOf_40 ?_
        refine A_goto C (pc := 43) 15 (by decide) dX3_hasPairsOf_43 ?_
        exact hk15 _ hf
      · refine A_iconst C (pc := 38) ic_0 dX3_hasPairsOf_38 ?_
        exact R_iP C (pc := 39) hr hk nz_0 dX3_hasPairsOf_39 hf
set_option maxRecDepth 100000 in
theorem m_X3_hasPairsOf (l : Launch) (B : Nat) (D : va_G) (Y : Nat → ClassId) (o : Ou) {M : Mem} {q0 : Nat} {q1 : Nat} {r : Int32} (hq0 : kd q0 = 2) (hq1 : kd q1 = 2) (hf : f_X3_hasPairsOf M q0 q1 = some r) : MW l yX3_hasPairsOf cX3_hasPairsOf 3 (some .boolean) rm_X3_hasPairsOf B D Y o [.ref (B + q0), .ref (B + q1)] M M (some (.int r)) := by
  refine ofAt (L0 := [(0, .ref (B + q0)), (1, .ref (B + q1))]) (by decide +kernel) (Nat.le_of_ble_eq_true rfl) rfl (fun p e s m args below meth c C hr hk => ?_)
  dsimp only [f_X3_hasPairsOf] at hf
  refine A_aload_n C (pc := 0) 0 rfl dX3_hasPairsOf_0 ?_
  refine A_g3_0 C (pc := 1) hq0 kf_X3_22 dX3_hasPairsOf_1 ?_
  refine A_aload_n C (pc := 4) 1 rfl dX3_hasPairsOf_4 ?_
  refine A_g3_0 C (pc := 5) hq1 kf_X3_22 dX3_hasPairsOf_5 ?_
  refine A_icmp_eq C (pc := 8) 13 (by decide) dX3_hasPairsOf_8 hf (fun _ hf => ?_) (fun _ hf => ?_)
  · refine A_iconst C (pc := 13) ic_0 dX3_hasPairsOf_13 ?_
    refine A_istore_n C (pc := 14) [(0, .ref (B + q0)), (1, .ref (B + q1)), (2, .int 0)] rfl (by decide) [1, 2, 0] rfl dX3_hasPairsOf_14 ?_
    exact w_X3_hasPairsOf_L15 C hr hk hq0 hq1 FU _  hf
  · refine A_iconst C (pc := 11) ic_0 dX3_hasPairsOf_11 ?_
    exact R_iP C (pc := 12) hr hk nz_0 dX3_hasPairsOf_12 hf
set_option maxRecDepth 100000 in
theorem m_X3_filledUp (l : Launch) (B : Nat) (D : va_G) (Y : Nat → ClassId) (o : Ou) {M : Mem} {q0 : Nat} {x1 : Int32} {r : Int32} (hq0 : kd q0 = 2) (hf : f_X3_filledUp M q0 x1 = some r) : MW l yX3_filledUp cX3_filledUp 2 (some .int) rm_X3_filledUp B D Y o [.ref (B + q0), .int x1] M M (some (.int r)) := by
  refine ofAt (L0 := [(0, .ref (B + q0)), (1, .int x1)]) (by decide +kernel) (Nat.le_of_ble_eq_true rfl) rfl (fun p e s m args below meth c C hr hk => ?_)
  dsimp only [f_X3_filledUp] at hf
  refine A_iload_n C (pc := 0) 1 rfl dX3_filledUp_0 ?_
  refine A_aload_n C (pc := 1) 0 rfl dX3_filledUp_1 ?_
  refine A_iload_n C (pc := 2) 1 rfl dX3_filledUp_2 ?_
  obtain ⟨z3, h3, hf⟩ := bd_i hf
  refine A_callV1 C (pc := 3) (A := [.int x1]) (rest := [.int x1]) k_X3_72 ky_X3_allBelow kv_X3_allBelow (m_X3_allBelow l B D Y o hq0 h3) (kO hq0).1 (ent2 hq0) rfl rfl rfl (Nat.le_of_ble_eq_true rfl) ⟨rfl, rfl, Nat.le_of_ble_eq_true rfl, Nat.le_of_ble_eq_true rfl⟩ ⟨Nat.zero_le _, Nat.zero_le _⟩ dX3_filledUp_3 ?_
  refine A_ior C (pc := 6) dX3_filledUp_6 ?_
  exact R_iP C (pc := 7) hr hk rfl dX3_filledUp_7 hf
set_option maxRecDepth 100000 in
theorem w_X3_pared_L4 {M : Mem} {q0 : Nat} {x1 : Int32} {r : Int32} (C : Cx p s m args c cX3_pared 4 RX3 B D Y) (hr : meth.sig.returnType = (some .int)) (hk : meth.locks = false) (hq0 : kd q0 = 2) : ∀ (n : Nat) (x2 : Int32) (x3 : Int32), f_X3_pared_L4 M q0 x1 n (x2, x3) = some r → At p l e rm_X3_pared s m args below meth c 4 0 0 (QQ below args s B D Y M o (some (.int r))) B D Y o 4 M [(0, .ref (B + q0)), (1, .int x1), (2, .int x2), (3, .int x3)] [] := by
  intro n
  induction n with
  | zero => intro x2 x3 hf; exact nomatch (show (none : Option Int32) = some r from hf)
  | succ n hk4 =>
    intro x2 x3 hf
    replace hf : g_X3_pared_L4 M q0 x1 (f_X3_pared_L4 M q0 x1 n) (x2, x3) = some r := hf
    dsimp only [g_X3_pared_L4] at hf
    refine A_iload_n C (pc := 4) 3 rfl dX3_pared_4 ?_
    refine A_aload_n C (pc := 5) 0 rfl dX3_pared_5 ?_
    refine A_g3_0 C (pc := 6) hq0 kf_X3_22 dX3_pared_6 ?_
    refine A_icmp_ge C (pc := 9) 45 (by decide) dX3_pared_9 hf (fun _ hf => ?_) (fun _ hf => ?_)
    · refine A_iload_n C (pc := 45) 2 rfl dX3_pared_45 ?_
      exact R_iP C (pc := 46) hr hk rfl dX3_pared_46 hf
    · refine A_iload_n C (pc := 12) 1 rfl dX3_pared_12 ?_
      refine A_iload_n C (pc := 13) 3 rfl dX3_pared_13 ?_
      obtain ⟨z14, h14, hf⟩ := bd_i hf
      refine A_callS1 C (pc := 14) (A := [.int x1, .int x3]) (rest := []) k_X3_30 ky_X6_has ks_X6_has (m_X6_has l B D Y o  h14) rfl rfl (Nat.le_of_ble_eq_true rfl) ⟨rfl, rfl, Nat.le_of_ble_eq_true rfl, Nat.le_of_ble_eq_true rfl⟩ ⟨Nat.zero_le _, Nat.zero_le _⟩ dX3_pared_14 ?_
      refine A_if_eq C (pc := 17) 39 (by decide) dX3_pared_17 hf (fun _ hf => ?_) (fun _ hf => ?_)
      · refine A_iinc C (pc := 39) (k0 := 3) [(0, .ref (B + q0)), (1, .int x1), (2, .int x2), (3, .int (x3 + 1))] rfl ic_1 (by decide) [1, 2, 3, 0] rfl dX3_pared_39 ?_
        refine A_goto C (pc := 42) 4 (by decide) dX3_pared_42 ?_
        exact hk4 _ _ hf
      · refine A_aload_n C (pc := 20) 0 rfl dX3_pared_20 ?_
        refine A_g3_1 C (pc := 21) hq0 kf_X3_9 dX3_pared_21 ?_
        refine A_iload_n C (pc := 24) 3 rfl dX3_pared_24 ?_
        obtain ⟨c25, hf⟩ := chk_i hf
        refine A_iald C (pc := 25) (iO1 hq0) c25 dX3_pared_25 ?_
        refine A_iload_n C (pc := 26) 1 rfl dX3_pared_26 ?_
        obtain ⟨z27, h27, hf⟩ := bd_i hf
        refine A_callS1 C (pc := 27) (A := [.int (M (q0 + 1) x3.toNatClampNeg), .int x1]) (rest := []) k_X3_75 ky_X6_isWithin ks_X6_isWithin (m_X6_isWithin l B D Y o  h27) rfl rfl (Nat.le_of_ble_eq_true rfl) ⟨rfl, rfl, Nat.le_of_ble_eq_true rfl, Nat.le_of_ble_eq_true rfl⟩ ⟨Nat.zero_le _, Nat.zero_le _⟩ dX3_pared_27 ?_
        refine A_if_eq C (pc := 30) 39 (by decide) dX3_pared_30 hf (fun _ hf => ?_) (fun _ hf => ?_)
        · refine A_iinc C (pc := 39) (k0 := 3) [(0, .ref (B + q0)), (1, .int x1), (2, .int x2), (3, .int (x3 + 1))] rfl ic_1 (by decide) [1, 2, 3, 0] rfl dX3_pared_39 ?_
          refine A_goto C (pc := 42) 4 (by decide) dX3_pared_42 ?_
          exact hk4 _ _ hf
        · refine A_iload_n C (pc := 33) 2 rfl dX3_pared_33 ?_
          refine A_iconst C (pc := 34) ic_1 dX3_pared_34 ?_
          refine A_iload_n C (pc := 35) 3 rfl dX3_pared_35 ?_
          refine A_ishl C (pc := 36) dX3_pared_36 ?_
          refine A_ior C (pc := 37) dX3_pared_37 ?_
          obtain ⟨v38, e38, hf⟩ := bd_i hf
          refine A_nmI e38 ?_
          refine A_istore_n C (pc := 38) [(0, .ref (B + q0)), (1, .int x1), (2, .int v38), (3, .int x3)] rfl (by decide) [1, 2, 0, 3] rfl dX3_pared_38 ?_
          refine A_iinc C (pc := 39) (k0 := 3) [(0, .ref (B + q0)), (1, .int x1), (2, .int v38), (3, .int (x3 + 1))] rfl ic_1 (by decide) [1, 2, 3, 0] rfl dX3_pared_39 ?_
          refine A_goto C (pc := 42) 4 (by decide) dX3_pared_42 ?_
          exact hk4 _ _ hf
set_option maxRecDepth 100000 in
theorem m_X3_pared (l : Launch) (B : Nat) (D : va_G) (Y : Nat → ClassId) (o : Ou) {M : Mem} {q0 : Nat} {x1 : Int32} {r : Int32} (hq0 : kd q0 = 2) (hf : f_X3_pared M q0 x1 = some r) : MW l yX3_pared cX3_pared 4 (some .int) rm_X3_pared B D Y o [.ref (B + q0), .int x1] M M (some (.int r)) := by
  refine ofAt (L0 := [(0, .ref (B + q0)), (1, .int x1)]) (by decide +kernel) (Nat.le_of_ble_eq_true rfl) rfl (fun p e s m args below meth c C hr hk => ?_)
  dsimp only [f_X3_pared] at hf
  refine A_iconst C (pc := 0) ic_0 dX3_pared_0 ?_
  refine A_istore_n C (pc := 1) [(0, .ref (B + q0)), (1, .int x1), (2, .int 0)] rfl (by decide) [1, 2, 0] rfl dX3_pared_1 ?_
  refine A_iconst C (pc := 2) ic_0 dX3_pared_2 ?_
  refine A_istore_n C (pc := 3) [(0, .ref (B + q0)), (1, .int x1), (2, .int 0), (3, .int 0)] rfl (by decide) [1, 2, 3, 0] rfl dX3_pared_3 ?_
  exact w_X3_pared_L4 C hr hk hq0 FU _ _  hf
set_option maxRecDepth 100000 in
theorem m_X3_canCome (l : Launch) (B : Nat) (D : va_G) (Y : Nat → ClassId) (o : Ou) {M : Mem} {q0 : Nat} {x1 : Int32} {x2 : Int32} {r : Int32} (hq0 : kd q0 = 2) (hf : f_X3_canCome M q0 x1 x2 = some r) : MW l yX3_canCome cX3_canCome 3 (some .boolean) rm_X3_canCome B D Y o [.ref (B + q0), .int x1, .int x2] M M (some (.int r)) := by
  refine ofAt (L0 := [(0, .ref (B + q0)), (1, .int x1), (2, .int x2)]) (by decide +kernel) (Nat.le_of_ble_eq_true rfl) rfl (fun p e s m args below meth c C hr hk => ?_)
  dsimp only [f_X3_canCome] at hf
  refine A_iload_n C (pc := 0) 1 rfl dX3_canCome_0 ?_
  refine A_iload_n C (pc := 1) 2 rfl dX3_canCome_1 ?_
  refine A_ishr C (pc := 2) dX3_canCome_2 ?_
  refine A_iconst C (pc := 3) ic_1 dX3_canCome_3 ?_
  refine A_iand C (pc := 4) dX3_canCome_4 ?_
  refine A_if_ne C (pc := 5) 25 (by decide) dX3_canCome_5 hf (fun _ hf => ?_) (fun _ hf => ?_)
  · refine A_iconst C (pc := 25) ic_0 dX3_canCome_25 ?_
    exact R_iP C (pc := 26) hr hk nz_0 dX3_canCome_26 hf
  · refine A_aload_n C (pc := 8) 0 rfl dX3_canCome_8 ?_
    refine A_g3_1 C (pc := 9) hq0 kf_X3_9 dX3_canCome_9 ?_
    refine A_iload_n C (pc := 12) 2 rfl dX3_canCome_12 ?_
    obtain ⟨c13, hf⟩ := chk_i hf
    refine A_iald C (pc := 13) (iO1 hq0) c13 dX3_canCome_13 ?_
    refine A_iload_n C (pc := 14) 1 rfl dX3_canCome_14 ?_
    refine A_iconst C (pc := 15) ic_m1 dX3_canCome_15 ?_
    refine A_ixor C (pc := 16) dX3_canCome_16 ?_
    refine A_iand C (pc := 17) dX3_canCome_17 ?_
    refine A_if_ne C (pc := 18) 25 (by decide) dX3_canCome_18 hf (fun _ hf => ?_) (fun _ hf => ?_)
    · refine A_iconst C (pc := 25) ic_0 dX3_canCome_25 ?_
      exact R_iP C (pc := 26) hr hk nz_0 dX3_canCome_26 hf
    · refine A_iconst C (pc := 21) ic_1 dX3_canCome_21 ?_
      refine A_goto C (pc := 22) 26 (by decide) dX3_canCome_22 ?_
      exact R_iP C (pc := 26) hr hk nz_1 dX3_canCome_26 hf
set_option maxRecDepth 100000 in
theorem w_X4_passOn_L2 {q0 : Nat} {q1 : Nat} {x2 : Int32} {r : Mem} (C : Cx p s m args c cX4_passOn 4 RX4 B D Y) (hr : meth.sig.returnType = none) (hk : meth.locks = false) (hq0 : kd q0 = 4) (hq1 : kd q1 = 2) : ∀ (n : Nat) (x3 : Int32) (M : Mem), f_X4_passOn_L2 q0 q1 x2 n (x3, M) = some r → At p l e rm_X4_passOn s m args below meth c 4 0 0 (QQ below args s B D Y r o none) B D Y o 2 M [(0, .ref (B + q0)), (1, .ref (B + q1)), (2, .int x2), (3, .int x3)] [] := by
  intro n
  induction n with
  | zero => intro x3 M hf; exact nomatch (show (none : Option Mem) = some r from hf)
  | succ n hk2 =>
    intro x3 M hf
    replace hf : g_X4_passOn_L2 q0 q1 x2 (f_X4_passOn_L2 q0 q1 x2 n) (x3, M) = some r := hf
    dsimp only [g_X4_passOn_L2] at hf
    refine A_iload_n C (pc := 2) 3 rfl dX4_passOn_2 ?_
    refine A_aload_n C (pc := 3) 1 rfl dX4_passOn_3 ?_
    refine A_g3_0 C (pc := 4) hq1 kf_X4_31 dX4_passOn_4 ?_
    refine A_icmp_ge C (pc := 7) 44 (by decide) dX4_passOn_7 hf (fun _ hf => ?_) (fun _ hf => ?_)
    · exact R_vM C (pc := 44) hr hk dX4_passOn_44 hf
    · refine A_aload_n C (pc := 10) 1 rfl dX4_passOn_10 ?_
      refine A_iload_n C (pc := 11) 2 rfl dX4_passOn_11 ?_
      refine A_iload_n C (pc := 12) 3 rfl dX4_passOn_12 ?_
      obtain ⟨z13, h13, hf⟩ := bd_i hf
      refine A_callV1 C (pc := 13) (A := [.int x2, .int x3]) (rest := []) k_X4_35 ky_X3_canCome kv_X3_canCome (m_X3_canCome l B D Y o hq1 h13) (kO hq1).1 (ent2 hq1) rfl rfl rfl (Nat.le_of_ble_eq_true rfl) ⟨rfl, rfl, Nat.le_of_ble_eq_true rfl, Nat.le_of_ble_eq_true rfl⟩ ⟨Nat.zero_le _, Nat.zero_le _⟩ dX4_passOn_13 ?_
      refine A_if_eq C (pc := 16) 38 (by decide) dX4_passOn_16 hf (fun _ hf => ?_) (fun _ hf => ?_)
      · refine A_iinc C (pc := 38) (k0 := 3) [(0, .ref (B + q0)), (1, .ref (B + q1)), (2, .int x2), (3, .int (x3 + 1))] rfl ic_1 (by decide) [1, 2, 3, 0] rfl dX4_passOn_38 ?_
        refine A_goto C (pc := 41) 2 (by decide) dX4_passOn_41 ?_
        exact hk2 _ _ hf
      · refine A_aload_n C (pc := 19) 0 rfl dX4_passOn_19 ?_
        refine A_g4_0 C (pc := 20) hq0 kf_X4_9 dX4_passOn_20 ?_
        refine A_iload_n C (pc := 23) 2 rfl dX4_passOn_23 ?_
        refine A_iconst C (pc := 24) ic_1 dX4_passOn_24 ?_
        refine A_iload_n C (pc := 25) 3 rfl dX4_passOn_25 ?_
        refine A_ishl C (pc := 26) dX4_passOn_26 ?_
        refine A_ior C (pc := 27) dX4_passOn_27 ?_
        refine A_dup2 C (pc := 28) rfl rfl dX4_passOn_28 ?_
        obtain ⟨c29, hf⟩ := chk_i hf
        refine A_iald C (pc := 29) (iR1 hq0) c29 dX4_passOn_29 ?_
        refine A_aload_n C (pc := 30) 0 rfl dX4_passOn_30 ?_
        refine A_g4_0 C (pc := 31) hq0 kf_X4_9 dX4_passOn_31 ?_
        refine A_iload_n C (pc := 34) 2 rfl dX4_passOn_34 ?_
        obtain ⟨c35, hf⟩ := chk_i hf
        refine A_iald C (pc := 35) (iR1 hq0) c35 dX4_passOn_35 ?_
        refine A_iadd C (pc := 36) dX4_passOn_36 ?_
        obtain ⟨c37, hf⟩ := chk_i hf
        obtain ⟨M37, e37, hf⟩ := bd_i hf
        refine A_iast C (pc := 37) (iR1 hq0) c37 dX4_passOn_37 ?_
        refine A_nmM e37 ?_
        refine A_iinc C (pc := 38) (k0 := 3) [(0, .ref (B + q0)), (1, .ref (B + q1)), (2, .int x2), (3, .int (x3 + 1))] rfl ic_1 (by decide) [1, 2, 3, 0] rfl dX4_passOn_38 ?_
        refine A_goto C (pc := 41) 2 (by decide) dX4_passOn_41 ?_
        exact hk2 _ _ hf
set_option maxRecDepth 100000 in
theorem m_X4_passOn (l : Launch) (B : Nat) (D : va_G) (Y : Nat → ClassId) (o : Ou) {M : Mem} {q0 : Nat} {q1 : Nat} {x2 : Int32} {r : Mem} (hq0 : kd q0 = 4) (hq1 : kd q1 = 2) (hf : f_X4_passOn M q0 q1 x2 = some r) : MW l yX4_passOn cX4_passOn 4 none rm_X4_passOn B D Y o [.ref (B + q0), .ref (B + q1), .int x2] M r none := by
  refine ofAt (L0 := [(0, .ref (B + q0)), (1, .ref (B + q1)), (2, .int x2)]) (by decide +kernel) (Nat.le_of_ble_eq_true rfl) rfl (fun p e s m args below meth c C hr hk => ?_)
  dsimp only [f_X4_passOn] at hf
  refine A_iconst C (pc := 0) ic_0 dX4_passOn_0 ?_
  refine A_istore_n C (pc := 1) [(0, .ref (B + q0)), (1, .ref (B + q1)), (2, .int x2), (3, .int 0)] rfl (by decide) [1, 2, 3, 0] rfl dX4_passOn_1 ?_
  exact w_X4_passOn_L2 C hr hk hq0 hq1 FU _ _  hf
set_option maxRecDepth 100000 in
theorem w_X4_count_L34 {q0 : Nat} {q1 : Nat} {x2 : Int32} {r : Int32 × Mem} (C : Cx p s m args c cX4_count 4 RX4 B D Y) (hr : meth.sig.returnType = (some .int)) (hk : meth.locks = false) (hq0 : kd q0 = 4) (hq1 : kd q1 = 2) : ∀ (n : Nat) (x3 : Int32) (M : Mem), f_X4_count_L34 q0 q1 x2 n (x3, M) = some r → At p l e rm_X4_count s m args below meth c 4 0 0 (QQ below args s B D Y r.2 o (some (.int r.1))) B D Y o 34 M [(0, .ref (B + q0)), (1, .ref (B + q1)), (2, .int x2), (3, .int x3)] [] := by
  intro n
  induction n with
  | zero => intro x3 M hf; exact nomatch (show (none : Option (Int32 × Mem)) = some r from hf)
  | succ n hk34 =>
    intro x3 M hf
    replace hf : g_X4_count_L34 q0 q1 x2 (f_X4_count_L34 q0 q1 x2 n) (x3, M) = some r := hf
    dsimp only [g_X4_count_L34] at hf
    refine A_iload_n C (pc := 34) 3 rfl dX4_count_34 ?_
    refine A_iload_n C (pc := 35) 2 rfl dX4_count_35 ?_
    refine A_icmp_ge C (pc := 36) 60 (by decide) dX4_count_36 hf (fun _ hf => ?_) (fun _ hf => ?_)
    · refine A_aload_n C (pc := 60) 0 rfl dX4_count_60 ?_
      refine A_g4_0 C (pc := 61) hq0 kf_X4_9 dX4_count_61 ?_
      refine A_iload_n C (pc := 64) 2 rfl dX4_count_64 ?_
      refine A_iconst C (pc := 65) ic_1 dX4_count_65 ?_
      refine A_isub C (pc := 66) dX4_count_66 ?_
      obtain ⟨c67, hf⟩ := chk_i hf
      refine A_iald C (pc := 67) (iR1 hq0) c67 dX4_count_67 ?_
      exact R_iM C (pc := 68) hr hk rfl dX4_count_68 hf
    · refine A_aload_n C (pc := 39) 0 rfl dX4_count_39 ?_
      refine A_g4_0 C (pc := 40) hq0 kf_X4_9 dX4_count_40 ?_
      refine A_iload_n C (pc := 43) 3 rfl dX4_count_43 ?_
      obtain ⟨c44, hf⟩ := chk_i hf
      refine A_iald C (pc := 44) (iR1 hq0) c44 dX4_count_44 ?_
      refine A_if_eq C (pc := 45) 54 (by decide) dX4_count_45 hf (fun _ hf => ?_) (fun _ hf => ?_)
      · refine A_iinc C (pc := 54) (k0 := 3) [(0, .ref (B + q0)), (1, .ref (B + q1)), (2, .int x2), (3, .int (x3 + 1))] rfl ic_1 (by decide) [1, 2, 3, 0] rfl dX4_count_54 ?_
        refine A_goto C (pc := 57) 34 (by decide) dX4_count_57 ?_
        exact hk34 _ _ hf
      · refine A_aload_n C (pc := 48) 0 rfl dX4_count_48 ?_
        refine A_aload_n C (pc := 49) 1 rfl dX4_count_49 ?_
        refine A_iload_n C (pc := 50) 3 rfl dX4_count_50 ?_
        obtain ⟨z51, h51, hf⟩ := bd_i hf
        refine A_callV0 C (pc := 51) (A := [.ref (B + q1), .int x3]) (rest := []) k_X4_27 ky_X4_passOn kv_X4_passOn (m_X4_passOn l B D Y o hq0 hq1 h51) (kR hq0).1 (ent4 hq0) rfl rfl rfl (Nat.le_of_ble_eq_true rfl) ⟨rfl, rfl, Nat.le_of_ble_eq_true rfl, Nat.le_of_ble_eq_true rfl⟩ ⟨Nat.zero_le _, Nat.zero_le _⟩ dX4_count_51 ?_
        refine A_iinc C (pc := 54) (k0 := 3) [(0, .ref (B + q0)), (1, .ref (B + q1)), (2, .int x2), (3, .int (x3 + 1))] rfl ic_1 (by decide) [1, 2, 3, 0] rfl dX4_count_54 ?_
        refine A_goto C (pc := 57) 34 (by decide) dX4_count_57 ?_
        exact hk34 _ _ hf
set_option maxRecDepth 100000 in
theorem w_X4_count_L7 {q0 : Nat} {q1 : Nat} {x2 : Int32} {r : Int32 × Mem} (C : Cx p s m args c cX4_count 4 RX4 B D Y) (hr : meth.sig.returnType = (some .int)) (hk : meth.locks = false) (hq0 : kd q0 = 4) (hq1 : kd q1 = 2) : ∀ (n : Nat) (x3 : Int32) (M : Mem), f_X4_count_L7 q0 q1 x2 n (x3, M) = some r → At p l e rm_X4_count s m args below meth c 4 0 0 (QQ below args s B D Y r.2 o (some (.int r.1))) B D Y o 7 M [(0, .ref (B + q0)), (1, .ref (B + q1)), (2, .int x2), (3, .int x3)] [] := by
  intro n
  induction n with
  | zero => intro x3 M hf; exact nomatch (show (none : Option (Int32 × Mem)) = some r from hf)
  | succ n hk7 =>
    intro x3 M hf
    replace hf : g_X4_count_L7 q0 q1 x2 (f_X4_count_L7 q0 q1 x2 n) (x3, M) = some r := hf
    dsimp only [g_X4_count_L7] at hf
    refine A_iload_n C (pc := 7) 3 rfl dX4_count_7 ?_
    refine A_iload_n C (pc := 8) 2 rfl dX4_count_8 ?_
    refine A_icmp_ge C (pc := 9) 25 (by decide) dX4_count_9 hf (fun _ hf => ?_) (fun _ hf => ?_)
    · refine A_aload_n C (pc := 25) 0 rfl dX4_count_25 ?_
      refine A_g4_0 C (pc := 26) hq0 kf_X4_9 dX4_count_26 ?_
      refine A_iconst C (pc := 29) ic_0 dX4_count_29 ?_
      refine A_iconst C (pc := 30) ic_1 dX4_count_30 ?_
      obtain ⟨c31, hf⟩ := chk_i hf
      obtain ⟨M31, e31, hf⟩ := bd_i hf
      refine A_iast C (pc := 31) (iR1 hq0) c31 dX4_count_31 ?_
      refine A_nmM e31 ?_
      refine A_iconst C (pc := 32) ic_0 dX4_count_32 ?_
      refine A_istore_n C (pc := 33) [(0, .ref (B + q0)), (1, .ref (B + q1)), (2, .int x2), (3, .int 0)] rfl (by decide) [1, 2, 3, 0] rfl dX4_count_33 ?_
      exact w_X4_count_L34 C hr hk hq0 hq1 FU _ _  hf
    · refine A_aload_n C (pc := 12) 0 rfl dX4_count_12 ?_
      refine A_g4_0 C (pc := 13) hq0 kf_X4_9 dX4_count_13 ?_
      refine A_iload_n C (pc := 16) 3 rfl dX4_count_16 ?_
      refine A_iconst C (pc := 17) ic_0 dX4_count_17 ?_
      obtain ⟨c18, hf⟩ := chk_i hf
      obtain ⟨M18, e18, hf⟩ := bd_i hf
      refine A_iast C (pc := 18) (iR1 hq0) c18 dX4_count_18 ?_
      refine A_nmM e18 ?_
      refine A_iinc C (pc := 19) (k0 := 3) [(0, .ref (B + q0)), (1, .ref (B + q1)), (2, .int x2), (3, .int (x3 + 1))] rfl ic_1 (by decide) [1, 2, 3, 0] rfl dX4_count_19 ?_
      refine A_goto C (pc := 22) 7 (by decide) dX4_count_22 ?_
      exact hk7 _ _ hf
set_option maxRecDepth 100000 in
theorem m_X4_count (l : Launch) (B : Nat) (D : va_G) (Y : Nat → ClassId) (o : Ou) {M : Mem} {q0 : Nat} {q1 : Nat} {r : Int32 × Mem} (hq0 : kd q0 = 4) (hq1 : kd q1 = 2) (hf : f_X4_count M q0 q1 = some r) : MW l yX4_count cX4_count 4 (some .int) rm_X4_count B D Y o [.ref (B + q0), .ref (B + q1)] M r.2 (some (.int r.1)) := by
  refine ofAt (L0 := [(0, .ref (B + q0)), (1, .ref (B + q1))]) (by decide +kernel) (Nat.le_of_ble_eq_true rfl) rfl (fun p e s m args below meth c C hr hk => ?_)
  dsimp only [f_X4_count] at hf
  refine A_aload_n C (pc := 0) 1 rfl dX4_count_0 ?_
  obtain ⟨z1, h1, hf⟩ := bd_i hf
  refine A_callV1 C (pc := 1) (A := []) (rest := []) k_X4_21 ky_X3_setLimit kv_X3_setLimit (m_X3_setLimit l B D Y o hq1 h1) (kO hq1).1 (ent2 hq1) rfl rfl rfl (Nat.le_of_ble_eq_true rfl) ⟨rfl, rfl, Nat.le_of_ble_eq_true rfl, Nat.le_of_ble_eq_true rfl⟩ ⟨Nat.zero_le _, Nat.zero_le _⟩ dX4_count_1 ?_
  refine A_istore_n C (pc := 4) [(0, .ref (B + q0)), (1, .ref (B + q1)), (2, .int z1)] rfl (by decide) [1, 2, 0] rfl dX4_count_4 ?_
  refine A_iconst C (pc := 5) ic_1 dX4_count_5 ?_
  refine A_istore_n C (pc := 6) [(0, .ref (B + q0)), (1, .ref (B + q1)), (2, .int z1), (3, .int 1)] rfl (by decide) [1, 2, 3, 0] rfl dX4_count_6 ?_
  exact w_X4_count_L7 C hr hk hq0 hq1 FU _ _  hf
set_option maxRecDepth 100000 in
theorem w_X4_waysByLesser_L6 {M : Mem} {q0 : Nat} {q1 : Nat} {x2 : Int32} {x3 : Int32} {r : Int32} (C : Cx p s m args c cX4_waysByLesser 6 RX4 B D Y) (hr : meth.sig.returnType = (some .int)) (hk : meth.locks = false) (hq0 : kd q0 = 4) (hq1 : kd q1 = 2) : ∀ (n : Nat) (x4 : Int32) (x5 : Int32), f_X4_waysByLesser_L6 M q0 q1 x2 x3 n (x4, x5) = some r → At p l e rm_X4_waysByLesser s m args below meth c 6 0 0 (QQ below args s B D Y M o (some (.int r))) B D Y o 6 M [(0, .ref (B + q0)), (1, .ref (B + q1)), (2, .int x2), (3, .int x3), (4, .int x4), (5, .int x5)] [] := by
  intro n
  induction n with
  | zero => intro x4 x5 hf; exact nomatch (show (none : Option Int32) = some r from hf)
  | succ n hk6 =>
    intro x4 x5 hf
    replace hf : g_X4_waysByLesser_L6 M q0 q1 x2 x3 (f_X4_waysByLesser_L6 M q0 q1 x2 x3 n) (x4, x5) = some r := hf
    dsimp only [g_X4_waysByLesser_L6] at hf
    refine A_iload C (pc := 6) 5 rfl dX4_waysByLesser_6 ?_
    refine A_iload_n C (pc := 8) 3 rfl dX4_waysByLesser_8 ?_
    refine A_icmp_ge C (pc := 9) 44 (by decide) dX4_waysByLesser_9 hf (fun _ hf => ?_) (fun _ hf => ?_)
    · refine A_iload C (pc := 44) 4 rfl dX4_waysByLesser_44 ?_
      exact R_iP C (pc := 46) hr hk rfl dX4_waysByLesser_46 hf
    · refine A_aload_n C (pc := 12) 1 rfl dX4_waysByLesser_12 ?_
      refine A_iload_n C (pc := 13) 2 rfl dX4_waysByLesser_13 ?_
      refine A_iload C (pc := 14) 5 rfl dX4_waysByLesser_14 ?_
      obtain ⟨z16, h16, hf⟩ := bd_i hf
      refine A_callV1 C (pc := 16) (A := [.int x2, .int x5]) (rest := []) k_X4_35 ky_X3_canCome kv_X3_canCome (m_X3_canCome l B D Y o hq1 h16) (kO hq1).1 (ent2 hq1) rfl rfl rfl (Nat.le_of_ble_eq_true rfl) ⟨rfl, rfl, Nat.le_of_ble_eq_true rfl, Nat.le_of_ble_eq_true rfl⟩ ⟨Nat.zero_le _, Nat.zero_le _⟩ dX4_waysByLesser_16 ?_
      refine A_if_eq C (pc := 19) 38 (by decide) dX4_waysByLesser_19 hf (fun _ hf => ?_) (fun _ hf => ?_)
      · refine A_iinc C (pc := 38) (k0 := 5) [(0, .ref (B + q0)), (1, .ref (B + q1)), (2, .int x2), (3, .int x3), (4, .int x4), (5, .int (x5 + 1))] rfl ic_1 (by decide) [1, 2, 3, 4, 5, 0] rfl dX4_waysByLesser_38 ?_
        refine A_goto C (pc := 41) 6 (by decide) dX4_waysByLesser_41 ?_
        exact hk6 _ _ hf
      · refine A_iload C (pc := 22) 4 rfl dX4_waysByLesser_22 ?_
        refine A_aload_n C (pc := 24) 0 rfl dX4_waysByLesser_24 ?_
        refine A_g4_1 C (pc := 25) hq0 kf_X4_15 dX4_waysByLesser_25 ?_
        refine A_iload_n C (pc := 28) 2 rfl dX4_waysByLesser_28 ?_
        refine A_iconst C (pc := 29) ic_1 dX4_waysByLesser_29 ?_
        refine A_iload C (pc := 30) 5 rfl dX4_waysByLesser_30 ?_
        refine A_ishl C (pc := 32) dX4_waysByLesser_32 ?_
        refine A_ior C (pc := 33) dX4_waysByLesser_33 ?_
        obtain ⟨c34, hf⟩ := chk_i hf
        refine A_iald C (pc := 34) (iR2 hq0) c34 dX4_waysByLesser_34 ?_
        refine A_iadd C (pc := 35) dX4_waysByLesser_35 ?_
        obtain ⟨v36, e36, hf⟩ := bd_i hf
        refine A_nmI e36 ?_
        refine A_istore C (pc := 36) [(0, .ref (B + q0)), (1, .ref (B + q1)), (2, .int x2), (3, .int x3), (4, .int v36), (5, .int x5)] (by decide) [1, 2, 3, 4, 0, 5] rfl dX4_waysByLesser_36 ?_
        refine A_iinc C (pc := 38) (k0 := 5) [(0, .ref (B + q0)), (1, .ref (B + q1)), (2, .int x2), (3, .int x3), (4, .int v36), (5, .int (x5 + 1))] rfl ic_1 (by decide) [1, 2, 3, 4, 5, 0] rfl dX4_waysByLesser_38 ?_
        refine A_goto C (pc := 41) 6 (by decide) dX4_waysByLesser_41 ?_
        exact hk6 _ _ hf
set_option maxRecDepth 100000 in
theorem m_X4_waysByLesser (l : Launch) (B : Nat) (D : va_G) (Y : Nat → ClassId) (o : Ou) {M : Mem} {q0 : Nat} {q1 : Nat} {x2 : Int32} {x3 : Int32} {r : Int32} (hq0 : kd q0 = 4) (hq1 : kd q1 = 2) (hf : f_X4_waysByLesser M q0 q1 x2 x3 = some r) : MW l yX4_waysByLesser cX4_waysByLesser 6 (some .int) rm_X4_waysByLesser B D Y o [.ref (B + q0), .ref (B + q1), .int x2, .int x3] M M (some (.int r)) := by
  refine ofAt (L0 := [(0, .ref (B + q0)), (1, .ref (B + q1)), (2, .int x2), (3, .int x3)]) (by decide +kernel) (Nat.le_of_ble_eq_true rfl) rfl (fun p e s m args below meth c C hr hk => ?_)
  dsimp only [f_X4_waysByLesser] at hf
  refine A_iconst C (pc := 0) ic_0 dX4_waysByLesser_0 ?_
  refine A_istore C (pc := 1) [(0, .ref (B + q0)), (1, .ref (B + q1)), (2, .int x2), (3, .int x3), (4, .int 0)] (by decide) [1, 2, 3, 4, 0] rfl dX4_waysByLesser_1 ?_
  refine A_iconst C (pc := 3) ic_0 dX4_waysByLesser_3 ?_
  refine A_istore C (pc := 4) [(0, .ref (B + q0)), (1, .ref (B + q1)), (2, .int x2), (3, .int x3), (4, .int 0), (5, .int 0)] (by decide) [1, 2, 3, 4, 5, 0] rfl dX4_waysByLesser_4 ?_
  exact w_X4_waysByLesser_L6 C hr hk hq0 hq1 FU _ _  hf
set_option maxRecDepth 100000 in
theorem w_X4_fill_L11 {q0 : Nat} {q1 : Nat} {x2 : Int32} {r : Int32 × Mem} (C : Cx p s m args c cX4_fill 4 RX4 B D Y) (hr : meth.sig.returnType = (some .int)) (hk : meth.locks = false) (hq0 : kd q0 = 4) (hq1 : kd q1 = 2) : ∀ (n : Nat) (x3 : Int32) (M : Mem), f_X4_fill_L11 q0 q1 x2 n (x3, M) = some r → At p l e rm_X4_fill s m args below meth c 4 0 0 (QQ below args s B D Y r.2 o (some (.int r.1))) B D Y o 11 M [(0, .ref (B + q0)), (1, .ref (B + q1)), (2, .int x2), (3, .int x3)] [] := by
  intro n
  induction n with
  | zero => intro x3 M hf; exact nomatch (show (none : Option (Int32 × Mem)) = some r from hf)
  | succ n hk11 =>
    intro x3 M hf
    replace hf : g_X4_fill_L11 q0 q1 x2 (f_X4_fill_L11 q0 q1 x2 n) (x3, M) = some r := hf
    dsimp only [g_X4_fill_L11] at hf
    refine A_iload_n C (pc := 11) 3 rfl dX4_fill_11 ?_
    refine A_if_lt C (pc := 12) 58 (by decide) dX4_fill_12 hf (fun _ hf => ?_) (fun _ hf => ?_)
    · refine A_iload_n C (pc := 58) 2 rfl dX4_fill_58 ?_
      exact R_iM C (pc := 59) hr hk rfl dX4_fill_59 hf
    · refine A_aload_n C (pc := 15) 0 rfl dX4_fill_15 ?_
      refine A_g4_0 C (pc := 16) hq0 kf_X4_9 dX4_fill_16 ?_
      refine A_iload_n C (pc := 19) 3 rfl dX4_fill_19 ?_
      obtain ⟨c20, hf⟩ := chk_i hf
      refine A_iald C (pc := 20) (iR1 hq0) c20 dX4_fill_20 ?_
      refine A_if_eq C (pc := 21) 52 (by decide) dX4_fill_21 hf (fun _ hf => ?_) (fun _ hf => ?_)
      · refine A_iinc C (pc := 52) (k0 := 3) [(0, .ref (B + q0)), (1, .ref (B + q1)), (2, .int x2), (3, .int (x3 + (-1)))] rfl ic_m1 (by decide) [1, 2, 3, 0] rfl dX4_fill_52 ?_
        refine A_goto C (pc := 55) 11 (by decide) dX4_fill_55 ?_
        exact hk11 _ _ hf
      · refine A_aload_n C (pc := 24) 0 rfl dX4_fill_24 ?_
        refine A_g4_1 C (pc := 25) hq0 kf_X4_15 dX4_fill_25 ?_
        refine A_iload_n C (pc := 28) 3 rfl dX4_fill_28 ?_
        refine A_iload_n C (pc := 29) 3 rfl dX4_fill_29 ?_
        refine A_aload_n C (pc := 30) 1 rfl dX4_fill_30 ?_
        obtain ⟨z31, h31, hf⟩ := bd_i hf
        refine A_callV1 C (pc := 31) (A := []) (rest := [.int x3, .int x3, .ref (B + (q0 + 2))]) k_X4_42 ky_X3_all kv_X3_all (m_X3_all l B D Y o hq1 h31) (kO hq1).1 (ent2 hq1) rfl rfl rfl (Nat.le_of_ble_eq_true rfl) ⟨rfl, rfl, Nat.le_of_ble_eq_true rfl, Nat.le_of_ble_eq_true rfl⟩ ⟨Nat.zero_le _, Nat.zero_le _⟩ dX4_fill_31 ?_
        refine A_icmp_ne C (pc := 34) 41 (by decide) dX4_fill_34 hf (fun _ hf => ?_) (fun _ hf => ?_)
        · refine A_aload_n C (pc := 41) 0 rfl dX4_fill_41 ?_
          refine A_aload_n C (pc := 42) 1 rfl dX4_fill_42 ?_
          refine A_iload_n C (pc := 43) 3 rfl dX4_fill_43 ?_
          refine A_aload_n C (pc := 44) 1 rfl dX4_fill_44 ?_
          refine A_g3_0 C (pc := 45) hq1 kf_X4_31 dX4_fill_45 ?_
          obtain ⟨z48, h48, hf⟩ := bd_i hf
          refine A_callV1 C (pc := 48) (A := [.ref (B + q1), .int x3, .int (M q1 0)]) (rest := [.int x3, .ref (B + (q0 + 2))]) k_X4_45 ky_X4_waysByLesser kv_X4_waysByLesser (m_X4_waysByLesser l B D Y o hq0 hq1 h48) (kR hq0).1 (ent4 hq0) rfl rfl rfl (Nat.le_of_ble_eq_true rfl) ⟨rfl, rfl, Nat.le_of_ble_eq_true rfl, Nat.le_of_ble_eq_true rfl⟩ ⟨Nat.zero_le _, Nat.zero_le _⟩ dX4_fill_48 ?_
          obtain ⟨c51, hf⟩ := chk_i hf
          obtain ⟨M51, e51, hf⟩ := bd_i hf
          refine A_iast C (pc := 51) (iR2 hq0) c51 dX4_fill_51 ?_
          refine A_nmM e51 ?_
          refine A_iinc C (pc := 52) (k0 := 3) [(0, .ref (B + q0)), (1, .ref (B + q1)), (2, .int x2), (3, .int (x3 + (-1)))] rfl ic_m1 (by decide) [1, 2, 3, 0] rfl dX4_fill_52 ?_
          refine A_goto C (pc := 55) 11 (by decide) dX4_fill_55 ?_
          exact hk11 _ _ hf
        · refine A_iconst C (pc := 37) ic_1 dX4_fill_37 ?_
          refine A_goto C (pc := 38) 51 (by decide) dX4_fill_38 ?_
          obtain ⟨c51, hf⟩ := chk_i hf
          obtain ⟨M51, e51, hf⟩ := bd_i hf
          refine A_iast C (pc := 51) (iR2 hq0) c51 dX4_fill_51 ?_
          refine A_nmM e51 ?_
          refine A_iinc C (pc := 52) (k0 := 3) [(0, .ref (B + q0)), (1, .ref (B + q1)), (2, .int x2), (3, .int (x3 + (-1)))] rfl ic_m1 (by decide) [1, 2, 3, 0] rfl dX4_fill_52 ?_
          refine A_goto C (pc := 55) 11 (by decide) dX4_fill_55 ?_
          exact hk11 _ _ hf
set_option maxRecDepth 100000 in
theorem m_X4_fill (l : Launch) (B : Nat) (D : va_G) (Y : Nat → ClassId) (o : Ou) {M : Mem} {q0 : Nat} {q1 : Nat} {r : Int32 × Mem} (hq0 : kd q0 = 4) (hq1 : kd q1 = 2) (hf : f_X4_fill M q0 q1 = some r) : MW l yX4_fill cX4_fill 4 (some .int) rm_X4_fill B D Y o [.ref (B + q0), .ref (B + q1)] M r.2 (some (.int r.1)) := by
  refine ofAt (L0 := [(0, .ref (B + q0)), (1, .ref (B + q1))]) (by decide +kernel) (Nat.le_of_ble_eq_true rfl) rfl (fun p e s m args below meth c C hr hk => ?_)
  dsimp only [f_X4_fill] at hf
  refine A_aload_n C (pc := 0) 0 rfl dX4_fill_0 ?_
  refine A_aload_n C (pc := 1) 1 rfl dX4_fill_1 ?_
  obtain ⟨z2, h2, hf⟩ := bd_i hf
  refine A_callV1 C (pc := 2) (A := [.ref (B + q1)]) (rest := []) k_X4_39 ky_X4_count kv_X4_count (m_X4_count l B D Y o hq0 hq1 h2) (kR hq0).1 (ent4 hq0) rfl rfl rfl (Nat.le_of_ble_eq_true rfl) ⟨rfl, rfl, Nat.le_of_ble_eq_true rfl, Nat.le_of_ble_eq_true rfl⟩ ⟨Nat.zero_le _, Nat.zero_le _⟩ dX4_fill_2 ?_
  refine A_istore_n C (pc := 5) [(0, .ref (B + q0)), (1, .ref (B + q1)), (2, .int z2.1)] rfl (by decide) [1, 2, 0] rfl dX4_fill_5 ?_
  refine A_aload_n C (pc := 6) 1 rfl dX4_fill_6 ?_
  obtain ⟨z7, h7, hf⟩ := bd_i hf
  refine A_callV1 C (pc := 7) (A := []) (rest := []) k_X4_42 ky_X3_all kv_X3_all (m_X3_all l B D Y o hq1 h7) (kO hq1).1 (ent2 hq1) rfl rfl rfl (Nat.le_of_ble_eq_true rfl) ⟨rfl, rfl, Nat.le_of_ble_eq_true rfl, Nat.le_of_ble_eq_true rfl⟩ ⟨Nat.zero_le _, Nat.zero_le _⟩ dX4_fill_7 ?_
  refine A_istore_n C (pc := 10) [(0, .ref (B + q0)), (1, .ref (B + q1)), (2, .int z2.1), (3, .int z7)] rfl (by decide) [1, 2, 3, 0] rfl dX4_fill_10 ?_
  exact w_X4_fill_L11 C hr hk hq0 hq1 FU _ _  hf
set_option maxRecDepth 100000 in
theorem m_X4_isReached (l : Launch) (B : Nat) (D : va_G) (Y : Nat → ClassId) (o : Ou) {M : Mem} {q0 : Nat} {x1 : Int32} {r : Int32} (hq0 : kd q0 = 4) (hf : f_X4_isReached M q0 x1 = some r) : MW l yX4_isReached cX4_isReached 2 (some .boolean) rm_X4_isReached B D Y o [.ref (B + q0), .int x1] M M (some (.int r)) := by
  refine ofAt (L0 := [(0, .ref (B + q0)), (1, .int x1)]) (by decide +kernel) (Nat.le_of_ble_eq_true rfl) rfl (fun p e s m args below meth c C hr hk => ?_)
  dsimp only [f_X4_isReached] at hf
  refine A_aload_n C (pc := 0) 0 rfl dX4_isReached_0 ?_
  refine A_g4_0 C (pc := 1) hq0 kf_X4_9 dX4_isReached_1 ?_
  refine A_iload_n C (pc := 4) 1 rfl dX4_isReached_4 ?_
  obtain ⟨c5, hf⟩ := chk_i hf
  refine A_iald C (pc := 5) (iR1 hq0) c5 dX4_isReached_5 ?_
  refine A_if_eq C (pc := 6) 13 (by decide) dX4_isReached_6 hf (fun _ hf => ?_) (fun _ hf => ?_)
  · refine A_iconst C (pc := 13) ic_0 dX4_isReached_13 ?_
    exact R_iP C (pc := 14) hr hk nz_0 dX4_isReached_14 hf
  · refine A_iconst C (pc := 9) ic_1 dX4_isReached_9 ?_
    refine A_goto C (pc := 10) 14 (by decide) dX4_isReached_10 ?_
    exact R_iP C (pc := 14) hr hk nz_1 dX4_isReached_14 hf
set_option maxRecDepth 100000 in
theorem w_X4_thingFor_L6 {M : Mem} {q0 : Nat} {q1 : Nat} {x2 : Int32} {x3 : Int32} {r : Int32} (C : Cx p s m args c cX4_thingFor 6 RX4 B D Y) (hr : meth.sig.returnType = (some .int)) (hk : meth.locks = false) (hq0 : kd q0 = 4) (hq1 : kd q1 = 2) : ∀ (n : Nat) (x4 : Int32) (x5 : Int32), f_X4_thingFor_L6 M q0 q1 x2 x3 n (x4, x5) = some r → At p l e rm_X4_thingFor s m args below meth c 6 0 0 (QQ below args s B D Y M o (some (.int r))) B D Y o 6 M [(0, .ref (B + q0)), (1, .ref (B + q1)), (2, .int x2), (3, .int x3), (4, .int x4), (5, .int x5)] [] := by
  intro n
  induction n with
  | zero => intro x4 x5 hf; exact nomatch (show (none : Option Int32) = some r from hf)
  | succ n hk6 =>
    intro x4 x5 hf
    replace hf : g_X4_thingFor_L6 M q0 q1 x2 x3 (f_X4_thingFor_L6 M q0 q1 x2 x3 n) (x4, x5) = some r := hf
    dsimp only [g_X4_thingFor_L6] at hf
    refine A_iload C (pc := 6) 5 rfl dX4_thingFor_6 ?_
    refine A_aload_n C (pc := 8) 1 rfl dX4_thingFor_8 ?_
    refine A_g3_0 C (pc := 9) hq1 kf_X4_31 dX4_thingFor_9 ?_
    refine A_icmp_ge C (pc := 12) 47 (by decide) dX4_thingFor_12 hf (fun _ hf => ?_) (fun _ hf => ?_)
    · refine A_iload C (pc := 47) 4 rfl dX4_thingFor_47 ?_
      exact R_iP C (pc := 49) hr hk rfl dX4_thingFor_49 hf
    · refine A_aload_n C (pc := 15) 1 rfl dX4_thingFor_15 ?_
      refine A_iload_n C (pc := 16) 2 rfl dX4_thingFor_16 ?_
      refine A_iload C (pc := 17) 5 rfl dX4_thingFor_17 ?_
      obtain ⟨z19, h19, hf⟩ := bd_i hf
      refine A_callV1 C (pc := 19) (A := [.int x2, .int x5]) (rest := []) k_X4_35 ky_X3_canCome kv_X3_canCome (m_X3_canCome l B D Y o hq1 h19) (kO hq1).1 (ent2 hq1) rfl rfl rfl (Nat.le_of_ble_eq_true rfl) ⟨rfl, rfl, Nat.le_of_ble_eq_true rfl, Nat.le_of_ble_eq_true rfl⟩ ⟨Nat.zero_le _, Nat.zero_le _⟩ dX4_thingFor_19 ?_
      refine A_if_eq C (pc := 22) 41 (by decide) dX4_thingFor_22 hf (fun _ hf => ?_) (fun _ hf => ?_)
      · refine A_iinc C (pc := 41) (k0 := 5) [(0, .ref (B + q0)), (1, .ref (B + q1)), (2, .int x2), (3, .int x3), (4, .int x4), (5, .int (x5 + 1))] rfl ic_1 (by decide) [1, 2, 3, 4, 5, 0] rfl dX4_thingFor_41 ?_
        refine A_goto C (pc := 44) 6 (by decide) dX4_thingFor_44 ?_
        exact hk6 _ _ hf
      · refine A_aload_n C (pc := 25) 0 rfl dX4_thingFor_25 ?_
        refine A_aload_n C (pc := 26) 1 rfl dX4_thingFor_26 ?_
        refine A_iload_n C (pc := 27) 2 rfl dX4_thingFor_27 ?_
        refine A_iload C (pc := 28) 5 rfl dX4_thingFor_28 ?_
        obtain ⟨z30, h30, hf⟩ := bd_i hf
        refine A_callV1 C (pc := 30) (A := [.ref (B + q1), .int x2, .int x5]) (rest := []) k_X4_45 ky_X4_waysByLesser kv_X4_waysByLesser (m_X4_waysByLesser l B D Y o hq0 hq1 h30) (kR hq0).1 (ent4 hq0) rfl rfl rfl (Nat.le_of_ble_eq_true rfl) ⟨rfl, rfl, Nat.le_of_ble_eq_true rfl, Nat.le_of_ble_eq_true rfl⟩ ⟨Nat.zero_le _, Nat.zero_le _⟩ dX4_thingFor_30 ?_
        refine A_iload_n C (pc := 33) 3 rfl dX4_thingFor_33 ?_
        refine A_icmp_gt C (pc := 34) 41 (by decide) dX4_thingFor_34 hf (fun _ hf => ?_) (fun _ hf => ?_)
        · refine A_iinc C (pc := 41) (k0 := 5) [(0, .ref (B + q0)), (1, .ref (B + q1)), (2, .int x2), (3, .int x3), (4, .int x4), (5, .int (x5 + 1))] rfl ic_1 (by decide) [1, 2, 3, 4, 5, 0] rfl dX4_thingFor_41 ?_
          refine A_goto C (pc := 44) 6 (by decide) dX4_thingFor_44 ?_
          exact hk6 _ _ hf
        · refine A_iload C (pc := 37) 5 rfl dX4_thingFor_37 ?_
          refine A_istore C (pc := 39) [(0, .ref (B + q0)), (1, .ref (B + q1)), (2, .int x2), (3, .int x3), (4, .int x5), (5, .int x5)] (by decide) [1, 2, 3, 4, 0, 5] rfl dX4_thingFor_39 ?_
          refine A_iinc C (pc := 41) (k0 := 5) [(0, .ref (B + q0)), (1, .ref (B + q1)), (2, .int x2), (3, .int x3), (4, .int x5), (5, .int (x5 + 1))] rfl ic_1 (by decide) [1, 2, 3, 4, 5, 0] rfl dX4_thingFor_41 ?_
          refine A_goto C (pc := 44) 6 (by decide) dX4_thingFor_44 ?_
          exact hk6 _ _ hf
set_option maxRecDepth 100000 in
theorem m_X4_thingFor (l : Launch) (B : Nat) (D : va_G) (Y : Nat → ClassId) (o : Ou) {M : Mem} {q0 : Nat} {q1 : Nat} {x2 : Int32} {x3 : Int32} {r : Int32} (hq0 : kd q0 = 4) (hq1 : kd q1 = 2) (hf : f_X4_thingFor M q0 q1 x2 x3 = some r) : MW l yX4_thingFor cX4_thingFor 6 (some .int) rm_X4_thingFor B D Y o [.ref (B + q0), .ref (B + q1), .int x2, .int x3] M M (some (.int r)) := by
  refine ofAt (L0 := [(0, .ref (B + q0)), (1, .ref (B + q1)), (2, .int x2), (3, .int x3)]) (by decide +kernel) (Nat.le_of_ble_eq_true rfl) rfl (fun p e s m args below meth c C hr hk => ?_)
  dsimp only [f_X4_thingFor] at hf
  refine A_iconst C (pc := 0) ic_0 dX4_thingFor_0 ?_
  refine A_istore C (pc := 1) [(0, .ref (B + q0)), (1, .ref (B + q1)), (2, .int x2), (3, .int x3), (4, .int 0)] (by decide) [1, 2, 3, 4, 0] rfl dX4_thingFor_1 ?_
  refine A_iconst C (pc := 3) ic_0 dX4_thingFor_3 ?_
  refine A_istore C (pc := 4) [(0, .ref (B + q0)), (1, .ref (B + q1)), (2, .int x2), (3, .int x3), (4, .int 0), (5, .int 0)] (by decide) [1, 2, 3, 4, 5, 0] rfl dX4_thingFor_4 ?_
  exact w_X4_thingFor_L6 C hr hk hq0 hq1 FU _ _  hf
set_option maxRecDepth 100000 in
theorem w_X4_layOut_L8 {q0 : Nat} {q1 : Nat} {r : Mem} (C : Cx p s m args c cX4_layOut 7 RX4 B D Y) (hr : meth.sig.returnType = none) (hk : meth.locks = false) (hq0 : kd q0 = 4) (hq1 : kd q1 = 2) : ∀ (n : Nat) (x3 : Int32) (x4 : Int32) (x5 : Int32) (M : Mem), f_X4_layOut_L8 q0 q1 n (x3, x4, x5, M) = some r → At p l e rm_X4_layOut s m args below meth c 7 0 0 (QQ below args s B D Y r o none) B D Y o 8 M [(0, .ref (B + q0)), (1, .ref (B + q1)), (3, .int x3), (4, .int x4), (5, .int x5)] [] := by
  intro n
  induction n with
  | zero => intro x3 x4 x5 M hf; exact nomatch (show (none : Option Mem) = some r from hf)
  | succ n hk8 =>
    intro x3 x4 x5 M hf
    replace hf : g_X4_layOut_L8 q0 q1 (f_X4_layOut_L8 q0 q1 n) (x3, x4, x5, M) = some r := hf
    dsimp only [g_X4_layOut_L8] at hf
    refine A_iload C (pc := 8) 4 rfl dX4_layOut_8 ?_
    refine A_aload_n C (pc := 10) 1 rfl dX4_layOut_10 ?_
    refine A_g3_0 C (pc := 11) hq1 kf_X4_31 dX4_layOut_11 ?_
    refine A_icmp_ge C (pc := 14) 62 (by decide) dX4_layOut_14 hf (fun _ hf => ?_) (fun _ hf => ?_)
    · exact R_vM C (pc := 62) hr hk dX4_layOut_62 hf
    · refine A_aload_n C (pc := 17) 0 rfl dX4_layOut_17 ?_
      refine A_aload_n C (pc := 18) 1 rfl dX4_layOut_18 ?_
      refine A_iload_n C (pc := 19) 2 rfl dX4_layOut_19 ?_
      refine A_iload C (pc := 20) 3 rfl dX4_layOut_20 ?_
      obtain ⟨z22, h22, hf⟩ := bd_i hf
      refine A_callV1 C (pc := 22) (A := [.ref (B + q1), .int x3, .int x4]) (rest := []) k_X4_49 ky_X4_thingFor kv_X4_thingFor (m_X4_thingFor l B D Y o hq0 hq1 h22) (kR hq0).1 (ent4 hq0) rfl rfl rfl (Nat.le_of_ble_eq_true rfl) ⟨rfl, rfl, Nat.le_of_ble_eq_true rfl, Nat.le_of_ble_eq_true rfl⟩ ⟨Nat.zero_le _, Nat.zero_le _⟩ dX4_layOut_22 ?_
      refine A_istore C (pc := 25) [(0, .ref (B + q0)), (1, .ref (B + q1)), (3, .int x3), (4, .int x4), (5, .int x5), (6, .int z22)] (by decide) [1, 2, 3, 4, 5, 0] rfl dX4_layOut_25 ?_
      refine A_iload C (pc := 27) 3 rfl dX4_layOut_27 ?_
      refine A_aload_n C (pc := 29) 0 rfl dX4_layOut_29 ?_
      refine A_aload_n C (pc := 30) 1 rfl dX4_layOut_30 ?_
      refine A_iload_n C (pc := 31) 2 rfl dX4_layOut_31 ?_
      refine A_iload C (pc := 32) 5 rfl dX4_layOut_32 ?_
      obtain ⟨z34, h34, hf⟩ := bd_i hf
      refine A_callV1 C (pc := 34) (A := [.ref (B + q1), .int x3, .int z22]) (rest := [.int x4]) k_X4_45 ky_X4_waysByLesser kv_X4_waysByLesser (m_X4_waysByLesser l B D Y o hq0 hq1 h34) (kR hq0).1 (ent4 hq0) rfl rfl rfl (Nat.le_of_ble_eq_true rfl) ⟨rfl, rfl, Nat.le_of_ble_eq_true rfl, Nat.le_of_ble_eq_true rfl⟩ ⟨Nat.zero_le _, Nat.zero_le _⟩ dX4_layOut_34 ?_
      refine A_isub C (pc := 37) dX4_layOut_37 ?_
      obtain ⟨v38, e38, hf⟩ := bd_i hf
      refine A_nmI e38 ?_
      refine A_istore C (pc := 38) [(0, .ref (B + q0)), (1, .ref (B + q1)), (3, .int x3), (4, .int v38), (5, .int x5), (6, .int z22)] (by decide) [1, 2, 3, 0, 4, 5] rfl dX4_layOut_38 ?_
      refine A_aload_n C (pc := 40) 0 rfl dX4_layOut_40 ?_
      refine A_g4_2 C (pc := 41) hq0 kf_X4_18 dX4_layOut_41 ?_
      refine A_iload C (pc := 44) 4 rfl dX4_layOut_44 ?_
      refine A_iload C (pc := 46) 5 rfl dX4_layOut_46 ?_
      obtain ⟨c48, hf⟩ := chk_i hf
      obtain ⟨M48, e48, hf⟩ := bd_i hf
      refine A_iast C (pc := 48) (iR3 hq0) c48 dX4_layOut_48 ?_
      refine A_nmM e48 ?_
      refine A_iload_n C (pc := 49) 2 rfl dX4_layOut_49 ?_
      refine A_iconst C (pc := 50) ic_1 dX4_layOut_50 ?_
      refine A_iload C (pc := 51) 5 rfl dX4_layOut_51 ?_
      refine A_ishl C (pc := 53) dX4_layOut_53 ?_
      refine A_ior C (pc := 54) dX4_layOut_54 ?_
      obtain ⟨v55, e55, hf⟩ := bd_i hf
      refine A_nmI e55 ?_
      refine A_istore_n C (pc := 55) [(0, .ref (B + q0)), (1, .ref (B + q1)), (3, .int v55), (4, .int v38), (5, .int x5)] rfl (by decide) [1, 2, 0, 3, 4] rfl dX4_layOut_55 ?_
      refine A_iinc C (pc := 56) (k0 := 4) [(0, .ref (B + q0)), (1, .ref (B + q1)), (3, .int v55), (4, .int v38), (5, .int (x5 + 1))] rfl ic_1 (by decide) [1, 2, 3, 4, 0] rfl dX4_layOut_56 ?_
      refine A_goto C (pc := 59) 8 (by decide) dX4_layOut_59 ?_
      exact hk8 _ _ _ _ hf
set_option maxRecDepth 100000 in
theorem m_X4_layOut (l : Launch) (B : Nat) (D : va_G) (Y : Nat → ClassId) (o : Ou) {M : Mem} {q0 : Nat} {q1 : Nat} {x2 : Int32} {r : Mem} (hq0 : kd q0 = 4) (hq1 : kd q1 = 2) (hf : f_X4_layOut M q0 q1 x2 = some r) : MW l yX4_layOut cX4_layOut 7 none rm_X4_layOut B D Y o [.ref (B + q0), .ref (B + q1), .int x2] M r none := by
  refine ofAt (L0 := [(0, .ref (B + q0)), (1, .ref (B + q1)), (2, .int x2)]) (by decide +kernel) (Nat.le_of_ble_eq_true rfl) rfl (fun p e s m args below meth c C hr hk => ?_)
  dsimp only [f_X4_layOut] at hf
  refine A_iconst C (pc := 0) ic_0 dX4_layOut_0 ?_
  refine A_istore_n C (pc := 1) [(0, .ref (B + q0)), (1, .ref (B + q1)), (2, .int x2), (3, .int 0)] rfl (by decide) [1, 2, 3, 0] rfl dX4_layOut_1 ?_
  refine A_iload_n C (pc := 2) 2 rfl dX4_layOut_2 ?_
  refine A_istore C (pc := 3) [(0, .ref (B + q0)), (1, .ref (B + q1)), (3, .int 0), (4, .int x2)] (by decide) [1, 2, 4, 0] rfl dX4_layOut_3 ?_
  refine A_iconst C (pc := 5) ic_0 dX4_layOut_5 ?_
  refine A_istore C (pc := 6) [(0, .ref (B + q0)), (1, .ref (B + q1)), (3, .int 0), (4, .int x2), (5, .int 0)] (by decide) [1, 2, 3, 4, 0] rfl dX4_layOut_6 ?_
  exact w_X4_layOut_L8 C hr hk hq0 hq1 FU _ _ _ _  hf
end W0
